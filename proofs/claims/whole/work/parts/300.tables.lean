-- the class: tables
/-- a table of so many columns and at most so many rows -/
def Tb (a c R : Int) : Prop := St a 8 3 ∧ ((c = 4 ∧ R = 6 ∧ (SH (a + 1)).2 = 24) ∨ (c = 100 ∧ R = 8 ∧ (SH (a + 1)).2 = 800) ∨ (c = 3 ∧ R = 6 ∧ (SH (a + 1)).2 = 18))
theorem wrap_k {r k c R : Int} (h : (c = 4 ∧ R = 6) ∨ (c = 100 ∧ R = 8) ∨ (c = 3 ∧ R = 6)) (hr : 0 ≤ r ∧ r < R) (hk : 0 ≤ k ∧ k < c) : wrap (wrap (r * c) + k) = c * r + k := by
  rcases h with ⟨rfl, rfl⟩ | ⟨rfl, rfl⟩ | ⟨rfl, rfl⟩
  · rw [wrap_eq (n := r * 4) (by unfold inR; omega), wrap_eq (by unfold inR; omega)]; omega
  · rw [wrap_eq (n := r * 100) (by unfold inR; omega), wrap_eq (by unfold inR; omega)]; omega
  · rw [wrap_eq (n := r * 3) (by unfold inR; omega), wrap_eq (by unfold inR; omega)]; omega
theorem Tb_cols {a c R : Int} (h : Tb a c R) : colsOf (SH (a + 1)).2 = c ∧ (((SH (a + 1)).2 : Nat) : Int) = c * R ∧ ((c = 4 ∧ R = 6) ∨ (c = 100 ∧ R = 8) ∨ (c = 3 ∧ R = 6)) := by
  rcases h.2 with ⟨rfl, rfl, e⟩ | ⟨rfl, rfl, e⟩ | ⟨rfl, rfl, e⟩
  · rw [e]; exact ⟨by decide, by decide, by decide⟩
  · rw [e]; exact ⟨by decide, by decide, by decide⟩
  · rw [e]; exact ⟨by decide, by decide, by decide⟩
/-- nothing but a table has changed -/
def ButT (a : Int) (μ ν : Mem) : Prop := (∀ r, r ≠ a → r ≠ a + 1 → ν r = μ r) ∧ ∀ k, k ≠ 2 → ν a k = μ a k
theorem ButT.rf {a : Int} {μ : Mem} : ButT a μ μ := ⟨fun _ _ _ => rfl, fun _ _ => rfl⟩
theorem ButT.tr {a : Int} {μ ν ξ : Mem} (h : ButT a μ ν) (h2 : ButT a ν ξ) : ButT a μ ξ := ⟨fun r r1 r2 => (h2.1 r r1 r2).trans (h.1 r r1 r2), fun k k2 => (h2.2 k k2).trans (h.2 k k2)⟩
theorem ButT.c {a k v : Int} {μ ν : Mem} (h : ButT a μ ν) : ButT a μ (up ν (a + 1) k v) := ⟨fun r r1 r2 => by rw [up_ne r2]; exact h.1 r r1 r2, fun j j2 => by rw [up_ne (by omega)]; exact h.2 j j2⟩
theorem ButT.r {a v : Int} {μ ν : Mem} (h : ButT a μ ν) : ButT a μ (up ν a 2 v) := ⟨fun r r1 r2 => by rw [up_ne r1]; exact h.1 r r1 r2, fun j j2 => by rw [up_oth j2]; exact h.2 j j2⟩
section Tables
variable {G : GT} {n : Nat} {μ : Mem}
theorem T_at (hg : gx G = FX) {Q : Int → Nat → Mem → Prop} {a c R r k : Int} (hT : Tb a c R) (hR : μ a 2 ≤ R) (q1 : 0 ≤ r → r < μ a 2 → 0 ≤ k → k < c → Q (μ (a + 1) (c * r + k)) n μ) (q0 : ¬ (0 ≤ r ∧ r < μ a 2 ∧ 0 ≤ k ∧ k < c) → Q (-9) n μ) : CI G Y_X8_at [.inr a, .inl r, .inl k] n μ Q := by
  obtain ⟨ec, eN, hc⟩ := Tb_cols hT
  refine m_X8_at hg hT.1 ?_
  rw [ec, eN]
  have hN : c * R = 24 ∨ c * R = 800 ∨ c * R = 18 := by rcases hc with ⟨rfl, rfl⟩ | ⟨rfl, rfl⟩ | ⟨rfl, rfl⟩ <;> omega
  refine ⟨fun z => q0 (by omega), fun z1 => ⟨fun z => q0 (by omega), fun z2 => ⟨fun z => q0 (by omega), fun z3 => ⟨fun z => q0 (by omega), fun z4 => ?_⟩⟩⟩⟩
  rw [wrap_k hc (by omega) (by omega)]
  have hin : 0 ≤ c * r + k ∧ c * r + k < c * R := by
    rcases hc with ⟨rfl, rfl⟩ | ⟨rfl, rfl⟩ | ⟨rfl, rfl⟩ <;> omega
  refine ⟨fun z => absurd z (by omega), fun _ => ⟨?_, fun _ => ⟨hin, q1 (by omega) (by omega) (by omega) (by omega)⟩, fun z => absurd hin.2 z⟩⟩
  have : (((SH (a + 1)).2 : Nat) : Int) < ((2147483648 : Nat) : Int) := by rw [eN]; omega
  exact Int.ofNat_lt.mp this
theorem T_put (hg : gx G = FX) {Q : Nat → Mem → Prop} {a c R r k v : Int} (hT : Tb a c R) (hR : μ a 2 ≤ R) (hr : 0 ≤ r ∧ r < μ a 2) (hk : 0 ≤ k ∧ k < c) (q : Q n (up μ (a + 1) (c * r + k) v)) : CV G Y_X8_put [.inr a, .inl r, .inl k, .inl v] n μ Q := by
  obtain ⟨ec, eN, hc⟩ := Tb_cols hT
  refine m_X8_put hg hT.1 ?_
  rw [ec, eN, wrap_k hc (by omega) (by omega)]
  have hN : c * R = 24 ∨ c * R = 800 ∨ c * R = 18 := by rcases hc with ⟨rfl, rfl⟩ | ⟨rfl, rfl⟩ | ⟨rfl, rfl⟩ <;> omega
  have hin : 0 ≤ c * r + k ∧ c * r + k < c * R := by
    rcases hc with ⟨rfl, rfl⟩ | ⟨rfl, rfl⟩ | ⟨rfl, rfl⟩ <;> omega
  refine ⟨fun z => absurd z (by omega), fun _ => ⟨fun z => absurd z (by omega), fun _ => ⟨fun z => absurd z (by omega), fun _ => ⟨fun z => absurd z (by omega), fun _ => ⟨fun z => absurd z (by omega), fun _ => ⟨?_, fun z => absurd z (by omega), fun _ => ⟨hin, q⟩⟩⟩⟩⟩⟩⟩
  have : (((SH (a + 1)).2 : Nat) : Int) < ((2147483648 : Nat) : Int) := by rw [eN]; omega
  exact Int.ofNat_lt.mp this
/-- a put that finds no cell is nothing -/
theorem T_put0 (hg : gx G = FX) {Q : Nat → Mem → Prop} {a r k v : Int} (hT : St a 8 3) (hr : ¬ (0 ≤ r ∧ r < μ a 2)) (q : Q n μ) : CV G Y_X8_put [.inr a, .inl r, .inl k, .inl v] n μ Q := by
  refine m_X8_put hg hT ⟨fun _ => q, fun z1 => ⟨fun _ => q, fun z2 => absurd ⟨by omega, by omega⟩ hr⟩⟩
theorem T_addRow (hg : gx G = FX) {Q : Int → Nat → Mem → Prop} {a c R : Int} (hT : Tb a c R) (h0 : 0 ≤ μ a 2) (hR : μ a 2 < R) (q : Q (μ a 2) n (up μ a 2 (μ a 2 + 1))) : CI G Y_X8_addRow [.inr a] n μ Q := by
  obtain ⟨ec, eN, hc⟩ := Tb_cols hT
  refine m_X8_addRow hg hT.1 ?_
  rw [ec, eN, up_self]
  have hN : c * R = 24 ∨ c * R = 800 ∨ c * R = 18 := by rcases hc with ⟨rfl, rfl⟩ | ⟨rfl, rfl⟩ | ⟨rfl, rfl⟩ <;> omega
  have hin : 0 ≤ (μ a 2 + 1) * c ∧ (μ a 2 + 1) * c ≤ c * R := by
    rcases hc with ⟨rfl, rfl⟩ | ⟨rfl, rfl⟩ | ⟨rfl, rfl⟩ <;> omega
  rw [show μ a 2 + 1 - 1 = μ a 2 by omega]
  refine ⟨by unfold inR; omega, by unfold inR; omega, ?_, fun _ => ⟨by unfold inR; omega, by unfold inR; omega, q⟩, fun z => absurd hin.2 z⟩
  have : (((SH (a + 1)).2 : Nat) : Int) < ((2147483648 : Nat) : Int) := by rw [eN]; omega
  exact Int.ofNat_lt.mp this
theorem T_cut (hg : gx G = FX) {Q : Nat → Mem → Prop} {a k : Int} (hT : St a 8 3) (h0 : 0 ≤ k) (h : 0 ≤ μ a 2) (q : Q n (up μ a 2 (if k < μ a 2 then k else μ a 2))) : CV G Y_X8_cut [.inr a, .inl k] n μ Q := by
  refine m_X8_cut hg hT ?_
  have e : (if 0 < (if k < μ a 2 then k else μ a 2) then (if k < μ a 2 then k else μ a 2) else 0) = (if k < μ a 2 then k else μ a 2) := by
    split
    · split
      · rfl
      · omega
    · split
      · rfl
      · omega
  rw [e]
  exact q
theorem T_append (hg : gx G = FX) {Q : Nat → Mem → Prop} {a b : Int} (hT : Tb a 4 6) (hB : Tb b 4 6) (hab : b ≠ a ∧ b ≠ a + 1 ∧ b + 1 ≠ a ∧ b + 1 ≠ a + 1) (h0 : 0 ≤ μ a 2) (hb0 : 0 ≤ μ b 2) (hs : μ a 2 + μ b 2 ≤ 6)
    (q : ∀ ν, ButT a μ ν → ν a 2 = μ a 2 + μ b 2 → (∀ j, 0 ≤ j → j < 4 * μ a 2 → ν (a + 1) j = μ (a + 1) j) → (∀ j, 0 ≤ j → j < 4 * μ b 2 → ν (a + 1) (4 * μ a 2 + j) = μ (b + 1) j) → Q n ν) : CV G Y_X8_appendFrom [.inr a, .inr b] n μ Q := by
  have ec : colsOf (SH (a + 1)).2 = 4 := (Tb_cols hT).1
  refine m_X8_appendFrom hg hT.1 hB.1 ?_
  have key : ∀ (d : Nat) (i : Int) (ν : Mem), i + d = μ b 2 → 0 ≤ i → ButT a μ ν → ν a 2 = μ a 2 + i → (∀ j, 0 ≤ j → j < 4 * μ a 2 → ν (a + 1) j = μ (a + 1) j) → (∀ j, 0 ≤ j → j < 4 * i → ν (a + 1) (4 * μ a 2 + j) = μ (b + 1) j) → B_X8_appendFrom_2 G Q n ν a b i := by
    intro d
    induction d with
    | zero =>
      intro i ν e i0 hF hr h1 h2
      have ei : i = μ b 2 := by omega
      subst ei
      exact b_X8_appendFrom_2 hg hT.1 hB.1 ⟨fun _ => q ν hF hr h1 h2, fun z => absurd (by rw [hF.1 b hab.1 hab.2.1]; omega) z⟩
    | succ d ih =>
      intro i ν e i0 hF hr h1 h2
      have vb : ν b = μ b := hF.1 b hab.1 hab.2.1
      refine b_X8_appendFrom_2 hg hT.1 hB.1 ⟨fun z => absurd z (by rw [vb]; omega), fun _ => T_addRow hg hT (by omega) (by omega) ?_⟩
      have cell : ∀ (m : Nat) (k : Int) (ξ : Mem), k + m = 4 → 0 ≤ k → ButT a μ ξ → ξ a 2 = μ a 2 + i + 1 → (∀ j, 0 ≤ j → j < 4 * μ a 2 → ξ (a + 1) j = μ (a + 1) j) → (∀ j, 0 ≤ j → j < 4 * i + k → ξ (a + 1) (4 * μ a 2 + j) = μ (b + 1) j) → B_X8_appendFrom_18 G Q n ξ a b i (μ a 2 + i) k := by
        intro m
        induction m with
        | zero =>
          intro k ξ ek k0 hFx xr x1 x2
          refine b_X8_appendFrom_18 hg hT.1 hB.1 ⟨fun _ => ⟨by unfold inR; omega, ih (i + 1) ξ (by omega) (by omega) hFx (by omega) x1 (fun j j0 j1 => x2 j j0 (by omega))⟩, fun z => absurd (by rw [ec]; omega) z⟩
        | succ m ihm =>
          intro k ξ ek k0 hFx xr x1 x2
          have xb : ξ b = μ b := hFx.1 b hab.1 hab.2.1
          have xb1 : ξ (b + 1) = μ (b + 1) := hFx.1 (b + 1) hab.2.2.1 hab.2.2.2
          refine b_X8_appendFrom_18 hg hT.1 hB.1 ⟨fun z => absurd z (by rw [ec]; omega), fun _ => T_at hg hB (by rw [xb]; omega) (fun _ _ _ _ => ?_) (fun z => absurd ⟨by omega, by rw [xb]; omega, by omega, by omega⟩ z)⟩
          refine T_put hg hT (by omega) (by omega) (by omega) ⟨by unfold inR; omega, ihm (k + 1) _ (by omega) (by omega) hFx.c (by rw [up_ne (by omega)]; exact xr) (fun j j0 j1 => ?_) (fun j j0 j1 => ?_)⟩
          · rw [up_oth (by omega)]; exact x1 j j0 j1
          · by_cases ej : 4 * μ a 2 + j = 4 * (μ a 2 + i) + k
            · rw [ej, up_self, xb1]
              congr 1
              omega
            · rw [up_oth ej]; exact x2 j j0 (by omega)
      rw [hr]
      refine cell 4 0 _ (by decide) (by decide) hF.r (by rw [up_self]) (fun j j0 j1 => ?_) (fun j j0 j1 => ?_)
      · rw [up_ne (by omega)]; exact h1 j j0 j1
      · rw [up_ne (by omega)]; exact h2 j j0 (by omega)
  exact key (μ b 2).toNat 0 μ (by omega) (by omega) ButT.rf (by omega) (fun j _ _ => rfl) (fun j j0 j1 => by omega)
theorem T_copy (hg : gx G = FX) {Q : Nat → Mem → Prop} {a b : Int} (hT : Tb a 4 6) (hB : Tb b 4 6) (hab : b ≠ a ∧ b ≠ a + 1 ∧ b + 1 ≠ a ∧ b + 1 ≠ a + 1) (hb0 : 0 ≤ μ b 2) (hs : μ b 2 ≤ 6)
    (q : ∀ ν, ButT a μ ν → ν a 2 = μ b 2 → (∀ j, 0 ≤ j → j < 4 * μ b 2 → ν (a + 1) j = μ (b + 1) j) → Q n ν) : CV G Y_X8_copyFrom [.inr a, .inr b] n μ Q := by
  have e2 : (up μ a 2 0) a 2 = 0 := up_self _ _ _ _
  have eb : (up μ a 2 0) b = μ b := up_ne hab.1
  have eb1 : (up μ a 2 0) (b + 1) = μ (b + 1) := up_ne hab.2.2.1
  refine m_X8_copyFrom hg hT.1 hB.1 (T_append hg hT hB hab (by omega) (by rw [eb]; exact hb0) (by rw [eb]; omega) (fun ν hF h1 h2 h3 => ?_))
  rw [eb, e2] at h1 h3
  rw [eb1] at h3
  refine q ν (ButT.rf.r.tr hF) (by omega) (fun j j0 j1 => ?_)
  have := h3 j j0 j1
  rw [show 4 * (0 : Int) + j = j by omega] at this
  exact this
theorem T_remove (hg : gx G = FX) {Q : Nat → Mem → Prop} {a : Int} (hT : Tb a 4 6) (h0 : 1 ≤ μ a 2) (h6 : μ a 2 ≤ 6)
    (q : ∀ ν, ButT a μ ν → ν a 2 = μ a 2 - 1 → (∀ j, 0 ≤ j → j < 4 * (μ a 2 - 1) → ν (a + 1) j = μ (a + 1) (j + 4)) → Q n ν) : CV G Y_X8_removeFirstRow [.inr a] n μ Q := by
  have ec : colsOf (SH (a + 1)).2 = 4 := (Tb_cols hT).1
  refine m_X8_removeFirstRow hg hT.1 ?_
  have key : ∀ (d : Nat) (i : Int) (ν : Mem), i + d = μ a 2 → 1 ≤ i → ButT a μ ν → ν a 2 = μ a 2 → (∀ j, 0 ≤ j → j < 4 * (i - 1) → ν (a + 1) j = μ (a + 1) (j + 4)) → (∀ j, 4 * (i - 1) ≤ j → ν (a + 1) j = μ (a + 1) j) → B_X8_removeFirstRow_2 G Q n ν a i := by
    intro d
    induction d with
    | zero =>
      intro i ν e i0 hF hr h1 h2
      have ei : i = μ a 2 := by omega
      subst ei
      refine b_X8_removeFirstRow_2 hg hT.1 ⟨fun _ => ⟨by unfold inR; omega, T_cut hg hT.1 (by omega) (by omega) ?_⟩, fun z => absurd (by omega) z⟩
      refine q _ hF.r (by rw [up_self, if_pos (by omega)]; omega) (fun j j0 j1 => ?_)
      rw [up_ne (by omega)]
      exact h1 j j0 j1
    | succ d ih =>
      intro i ν e i0 hF hr h1 h2
      refine b_X8_removeFirstRow_2 hg hT.1 ⟨fun z => absurd z (by omega), fun _ => ?_⟩
      have cell : ∀ (m : Nat) (k : Int) (ξ : Mem), k + m = 4 → 0 ≤ k → ButT a μ ξ → ξ a 2 = μ a 2 → (∀ j, 0 ≤ j → j < 4 * (i - 1) + k → ξ (a + 1) j = μ (a + 1) (j + 4)) → (∀ j, 4 * (i - 1) + k ≤ j → ξ (a + 1) j = μ (a + 1) j) → B_X8_removeFirstRow_12 G Q n ξ a i k := by
        intro m
        induction m with
        | zero =>
          intro k ξ ek k0 hFx xr x1 x2
          refine b_X8_removeFirstRow_12 hg hT.1 ⟨fun _ => ⟨by unfold inR; omega, ih (i + 1) ξ (by omega) (by omega) hFx xr (fun j j0 j1 => x1 j j0 (by omega)) (fun j j0 => x2 j (by omega))⟩, fun z => absurd (by rw [ec]; omega) z⟩
        | succ m ihm =>
          intro k ξ ek k0 hFx xr x1 x2
          refine b_X8_removeFirstRow_12 hg hT.1 ⟨fun z => absurd z (by rw [ec]; omega), fun _ => ⟨by unfold inR; omega, T_at hg hT (by omega) (fun _ _ _ _ => ?_) (fun z => absurd ⟨by omega, by omega, by omega, by omega⟩ z)⟩⟩
          refine T_put hg hT (by omega) (by omega) (by omega) ⟨by unfold inR; omega, ihm (k + 1) _ (by omega) (by omega) hFx.c (by rw [up_ne (by omega)]; exact xr) (fun j j0 j1 => ?_) (fun j j0 => ?_)⟩
          · by_cases ej : j = 4 * (i - 1) + k
            · rw [ej, up_self, x2 _ (by omega)]
              congr 1
              omega
            · rw [up_oth ej]; exact x1 j j0 (by omega)
          · rw [up_oth (by omega)]; exact x2 j (by omega)
      exact cell 4 0 ν (by decide) (by decide) hF hr (fun j j0 j1 => h1 j j0 (by omega)) (fun j j0 => h2 j (by omega))
  exact key (μ a 2 - 1).toNat 1 μ (by omega) (by omega) ButT.rf rfl (fun j j0 j1 => by omega) (fun j _ => rfl)
end Tables
