-- the constructors: what they leave
/-- the final fields of some cells hold what they should -/
def FXr (a b : Int) (ν : Mem) : Prop := ∀ x k : Int, a ≤ x → x < b → finK (SH x).1 k = true → ν x k = FV x k
theorem FXr.app {a b c : Int} {ν : Mem} (h : FXr a b ν) (h2 : FXr b c ν) : FXr a c ν := fun x k x0 x1 hk => by
  by_cases e : x < b
  · exact h x k x0 e hk
  · exact h2 x k (by omega) x1 hk
theorem FXr.keep {a b : Int} {μ ν : Mem} (h : FXr a b μ) (q : ∀ x, a ≤ x → x < b → ν x = μ x) : FXr a b ν := fun x k x0 x1 hk => by
  rw [q x x0 x1]
  exact h x k x0 x1 hk
theorem FXr.one {a : Int} {ν : Mem} (h : ∀ k, finK (SH a).1 k = true → ν a k = FV a k) : FXr a (a + 1) ν := fun x k x0 x1 hk => by
  have e : x = a := by omega
  subst e
  exact h k hk
theorem FXr.non {a : Int} {ν : Mem} {kd N : Nat} (o : St a kd N) (h : ∀ k, finK kd k = false) : FXr a (a + 1) ν := FXr.one (fun k hk => by
  rw [o.2.2] at hk
  rw [h k] at hk
  cases hk)
theorem Oc_of {a : Int} {kd N : Nat} (o : St a kd N) {m : Nat} (h : a < m) : Oc m a kd N := ⟨o.1, h, o.2.2⟩
theorem fin2 {k : Int} (h : (k == 0 || k == 1) = true) : k = 0 ∨ k = 1 := by simpa using h
section Init
variable {G : GT} {n : Nat} {μ : Mem}
theorem I_table (hg : gx G = fun _ _ => True) {Q : Nat → Mem → Prop} {v0 r c : Int} {N : Nat} (o : St v0 8 3) (hn : v0 + 1 = (n : Int)) (hN : r * c = (N : Int)) (hs : SH (n : Int) = (20, N)) (hN8 : N ≤ 800) (hc : colsOf N = c)
    (q : ∀ (n' : Nat) ν, (n' : Int) = v0 + 2 → (∀ x, x < v0 → ν x = μ x) → FXr v0 (v0 + 2) ν → ν v0 2 = 0 → Q n' ν) : CV G Y_X8_init [.inr v0, .inl r, .inl c] n μ Q := by
  have ho : ∀ m : Nat, v0 < m → Oc m v0 8 3 := fun m hm => Oc_of o hm
  refine m_X8_init hg ⟨o.1, ho n (by omega), by unfold inR; omega, ⟨by decide, by decide⟩, N, by rw [if_neg (by omega)]; exact hN, ⟨by omega, hs, by decide, by omega⟩, ho (n + 1) (by omega), ho (n + 1) (by omega), ⟨by decide, by omega⟩, q (n + 1) _ (by omega) (fun x hx => ?_) ?_ (up_self _ _ _ _)⟩
  · rw [up_ne (by omega), up_ne (by omega), nw_ne (by omega), up_ne (by omega)]
  · have o1 : St (v0 + 1) 20 N := ⟨by have := o.1; omega, (st_8_1 o).2.1, by rw [hn]; exact hs⟩
    have e : v0 + 2 = v0 + 1 + 1 := by omega
    rw [e]
    refine FXr.app (FXr.one (fun k hk => ?_)) (FXr.non o1 (fun k => rfl))
    rw [o.2.2] at hk
    rcases fin2 hk with rfl | rfl
    · rw [up_oth (by decide), up_oth (by decide), nw_ne (by omega), up_self]
      unfold FV
      rw [o.2.2, o1.2.2]
      exact hc.symm
    · rw [up_oth (by decide), up_self]
      unfold FV
      rw [o.2.2]
      exact hn.symm
theorem I_bundle (hg : gx G = fun _ _ => True) {Q : Nat → Mem → Prop} {v0 : Int} (o : St v0 0 9) (hn : v0 + 1 = (n : Int))
    (q : ∀ (n' : Nat) ν, (n' : Int) = v0 + 3 → (∀ x, x < v0 → ν x = μ x) → FXr v0 (v0 + 3) ν → Q n' ν) : CV G Y_X0_init [.inr v0, .inr 7] n μ Q := by
  have ho : ∀ m : Nat, v0 < m → Oc m v0 0 9 := fun m hm => Oc_of o hm
  have o1 := st_0_1 o
  have o2 := st_0_2 o
  have e1 : (n : Int) = v0 + 1 := hn.symm
  refine m_X0_init hg ⟨o.1, ho n (by omega), ⟨by rw [e1]; exact o1.2.2, by decide, by decide⟩, ⟨by decide, by decide⟩, I_table hg (N := 24) (by rw [e1]; exact o1) (by omega) (by decide) (by rw [show ((n + 1 : Nat) : Int) = v0 + 1 + 1 by omega]; exact o2.2.2) (by decide) (by decide) (fun n' ν h1 h2 h3 h4 => ⟨ho n' (by omega), ⟨by decide, by decide⟩, q n' _ (by omega) (fun x hx => ?_) ?_⟩)⟩
  · rw [up_ne (by omega), h2 x (by omega), nw_ne (by omega), up_ne (by omega)]
  · have e3 : v0 + 3 = (n : Int) + 2 := by omega
    rw [e3]
    refine FXr.app (b := (n : Int)) ?_ (h3.keep (fun x x0 x1 => up_ne (by omega)))
    rw [e1]
    refine FXr.one (fun k hk => ?_)
    rw [o.2.2] at hk
    rcases fin2 hk with rfl | rfl
    · rw [up_oth (by decide), h2 v0 (by omega), nw_ne (by omega), up_self]
      unfold FV
      rw [o.2.2]
      rfl
    · rw [up_self]
      unfold FV
      rw [o.2.2]
      rfl
theorem I_situation (hg : gx G = fun _ _ => True) {Q : Nat → Mem → Prop} {v0 : Int} (o : St v0 7 5) (hn : v0 + 1 = (n : Int))
    (q : ∀ (n' : Nat) ν, (n' : Int) = v0 + 29 → (∀ x, x < v0 → ν x = μ x) → FXr v0 (v0 + 29) ν → ν v0 2 = 0 → ν v0 3 = 0 → ν v0 4 = 0 → Q n' ν) : CV G Y_X7_init [.inr v0, .inr 7] n μ Q := by
  have ho : ∀ m : Nat, v0 < m → Oc m v0 7 5 := fun m hm => Oc_of o hm
  have o1 := st_7_1 o
  have o4 := st_7_4 o
  have e1 : (n : Int) = v0 + 1 := hn.symm
  have loop : ∀ (d : Nat) (b : Int) (m c0 s0 : Nat) (ν : Mem), b + d = 8 → 0 ≤ b → (m : Int) = v0 + 5 + 3 * b → (c0 : Int) = 4 + 3 * b → (s0 : Int) = 820 + 812 * b → (∀ x, x < v0 → ν x = μ x) → ν v0 0 = v0 + 1 → ν v0 1 = v0 + 4 → FXr (v0 + 1) (v0 + 4) ν → (∀ k, 0 ≤ k → k < b → ν (v0 + 4) k = v0 + 4 + 1 + 3 * k) → FXr (v0 + 5) (v0 + 5 + 3 * b) ν → B_X7_init_27 G Q c0 s0 m ν v0 7 b := by
    intro d
    induction d with
    | zero =>
      intro b m c0 s0 ν e b0 hm hc hs hF h0 h1 hA hB hD
      have eb : b = 8 := by omega
      subst eb
      refine b_X7_init_27 hg ⟨ho m (by omega), by rw [h1]; exact Oc_of o4 (by omega), fun _ => ⟨ho m (by omega), ho m (by omega), ho m (by omega), ⟨by omega, by omega⟩, q m _ (by omega) (fun x hx => by rw [up_ne (by omega), up_ne (by omega), up_ne (by omega)]; exact hF x hx) ?_ ?_ ?_ (up_self _ _ _ _)⟩, fun z => absurd (by decide) z⟩
      · have k1 : ∀ x, x ≠ v0 → (up (up (up ν v0 2 0) v0 3 0) v0 4 0) x = ν x := fun x hx => by rw [up_ne hx, up_ne hx, up_ne hx]
        have e5 : v0 + 5 = v0 + 4 + 1 := by omega
        have e29 : v0 + 29 = v0 + 5 + 3 * 8 := by omega
        rw [e29]
        refine FXr.app (b := v0 + 1) (FXr.one (fun k hk => ?_)) (FXr.app (b := v0 + 4) (hA.keep (fun x x0 x1 => k1 x (by omega))) (FXr.app (b := v0 + 5) ?_ (hD.keep (fun x x0 x1 => k1 x (by omega)))))
        · rw [o.2.2] at hk
          rcases fin2 hk with rfl | rfl
          · rw [up_oth (by decide), up_oth (by decide), up_oth (by decide), h0]
            unfold FV
            rw [o.2.2]
            rfl
          · rw [up_oth (by decide), up_oth (by decide), up_oth (by decide), h1]
            unfold FV
            rw [o.2.2]
            rfl
        · rw [e5]
          refine FXr.one (fun k hk => ?_)
          rw [o4.2.2] at hk
          have hk' : 0 ≤ k ∧ k < 8 := by simpa [finK] using hk
          rw [k1 (v0 + 4) (by omega), hB k hk'.1 hk'.2]
          unfold FV
          rw [o4.2.2]
          rfl
      · rw [up_oth (by decide), up_oth (by decide), up_self]
      · rw [up_oth (by decide), up_self]
    | succ d ih =>
      intro b m c0 s0 ν e b0 hm hc hs hF h0 h1 hA hB hD
      have ob := st_22 o4 b0 (by omega : b < 8)
      have em : (m : Int) = v0 + 4 + 1 + 3 * b := by omega
      refine b_X7_init_27 hg ⟨ho m (by omega), by rw [h1]; exact Oc_of o4 (by omega), fun z => absurd z (by omega), fun _ => ⟨ho m (by omega), ⟨by rw [em]; exact ob.2.2, by omega, by omega⟩, ⟨by omega, by omega⟩, I_bundle hg (by rw [em]; exact ob) (by omega) (fun n' ξ g1 g2 g3 => ?_)⟩⟩
      have x1 : ξ v0 = ν v0 := by rw [g2 v0 (by omega), nw_ne (by omega)]
      have x4 : ξ (v0 + 4) = ν (v0 + 4) := by rw [g2 (v0 + 4) (by omega), nw_ne (by omega)]
      rw [h1]
      refine ⟨⟨Oc_of o4 (by omega), ⟨b0, by omega⟩, ?_⟩, by unfold inR; omega, ih (b + 1) n' _ _ _ (by omega) (by omega) (by omega) (by omega) (by omega) (fun x hx => ?_) ?_ ?_ ?_ (fun k k0 k1 => ?_) ?_⟩
      · rw [em]; exact Oc_of ob (by omega)
      · rw [up_ne (by omega), g2 x (by omega), nw_ne (by omega)]; exact hF x hx
      · rw [up_ne (by omega), x1]; exact h0
      · rw [up_ne (by omega), x1]; exact h1
      · exact hA.keep (fun x x0 x1 => by rw [up_ne (by omega), g2 x (by omega), nw_ne (by omega)])
      · by_cases ek : k = b
        · rw [ek, up_self]; omega
        · rw [up_oth ek, x4]; exact hB k k0 (by omega)
      · have e8 : v0 + 5 + 3 * (b + 1) = (m : Int) + 3 := by omega
        rw [e8]
        refine FXr.app (b := (m : Int)) ?_ (g3.keep (fun x x0 x1 => up_ne (by omega)))
        rw [hm]
        exact hD.keep (fun x x0 x1 => by rw [up_ne (by omega), g2 x (by omega), nw_ne (by omega)])
  refine m_X7_init hg ⟨o.1, ⟨by rw [e1]; exact o1.2.2, by decide, by decide⟩, ⟨by decide, by decide⟩, I_bundle hg (by rw [e1]; exact o1) (by omega) (fun n' ν g1 g2 g3 => ?_)⟩
  have e4 : (n' : Int) = v0 + 4 := by omega
  refine ⟨ho n' (by omega), ⟨by rw [e4]; exact o4.2.2, by decide, by decide⟩, ho (n' + 1) (by omega), loop 8 0 (n' + 1) _ _ _ (by decide) (by decide) (by omega) (by decide) (by decide) (fun x hx => ?_) ?_ ?_ ?_ (fun k k0 k1 => by omega) (fun x k x0 x1 => by omega)⟩
  · rw [up_ne (by omega), nw_ne (by omega), up_ne (by omega), g2 x (by omega), nw_ne (by omega)]
  · rw [up_oth (by decide), nw_ne (by omega), up_self, e1]
  · rw [up_self, e4]
  · have e3 : v0 + 4 = (n : Int) + 3 := by omega
    rw [e3, show v0 + 1 = (n : Int) by omega]
    exact g3.keep (fun x x0 x1 => by rw [up_ne (by omega), nw_ne (by omega), up_ne (by omega)])
theorem I_network (hg : gx G = fun _ _ => True) {Q : Nat → Mem → Prop} {v0 : Int} (o : St v0 3 4) (hn : v0 + 1 = (n : Int))
    (q : ∀ (n' : Nat) ν, (n' : Int) = v0 + 3 → (∀ x, x < v0 → ν x = μ x) → FXr v0 (v0 + 3) ν → ν v0 2 = 0 → ν v0 3 = 2 → Q n' ν) : CV G Y_X3_init [.inr v0] n μ Q := by
  have ho : ∀ m : Nat, v0 < m → Oc m v0 3 4 := fun m hm => Oc_of o hm
  have o1 := st_3_1 o
  have o2 := st_3_2 o
  have e1 : (n : Int) = v0 + 1 := hn.symm
  have oc := ho
  have oC : Oc (n + 1) (n : Int) 1 6 := by rw [e1]; exact Oc_of o1 (by omega)
  have e2 : ((n + 1 : Nat) : Int) = v0 + 2 := by omega
  refine m_X3_init hg ⟨o.1, ⟨by rw [e1]; exact o1.2.2, by decide, by decide⟩, ⟨by decide, by decide⟩, m_X1_init (fun m ξ k v f => by rw [hg]; trivial) ⟨by omega, oC, oC, oC, oC, oC, oC, ho (n + 1) (by omega), ⟨by rw [e2]; exact o2.2.2, by decide, by decide⟩, ho (n + 1 + 1) (by omega), ho (n + 1 + 1) (by omega), ho (n + 1 + 1) (by omega), ⟨by decide, by decide⟩, q (n + 1 + 1) _ (by omega) (fun x hx => ?_) ?_ ?_ (up_self _ _ _ _)⟩⟩
  · rw [up_ne (by omega), up_ne (by omega), up_ne (by omega), nw_ne (by omega), up_ne (by omega), up_ne (by omega), up_ne (by omega), up_ne (by omega), up_ne (by omega), up_ne (by omega), up_ne (by omega), nw_ne (by omega)]
  · rw [show v0 + 3 = v0 + 1 + 1 + 1 by omega]
    refine FXr.app (FXr.app (FXr.one (fun k hk => ?_)) (FXr.non o1 (fun k => rfl))) (FXr.non (by rw [show v0 + 1 + 1 = v0 + 2 by omega]; exact o2) (fun k => rfl))
    rw [o.2.2] at hk
    rcases fin2 hk with rfl | rfl
    · rw [up_oth (by decide), up_oth (by decide), up_oth (by decide), nw_ne (by omega), up_self]
      unfold FV
      rw [o.2.2]
      exact e1
    · rw [up_oth (by decide), up_oth (by decide), up_self]
      unfold FV
      rw [o.2.2]
      exact e2
  · rw [up_oth (by decide), up_self]
theorem I_history (hg : gx G = fun _ _ => True) {Q : Nat → Mem → Prop} (hn : n = 77)
    (q : ∀ ν, (∀ x, x < 76 → ν x = μ x) → FXr 76 339 ν → ν 76 2 = 0 → ν 76 3 = 0 → Q 339 ν) : CV G Y_X2_init [.inr 76, .inr 7] n μ Q := by
  subst hn
  have ho : ∀ m : Nat, (76 : Int) < m → Oc m 76 2 4 := fun m hm => Oc_of St_76 hm
  have loop : ∀ (d : Nat) (b : Int) (m c0 s0 : Nat) (ν : Mem), b + d = 8 → 0 ≤ b → (m : Int) = 107 + 29 * b → (c0 : Int) = 30 + 29 * b → (s0 : Int) = 7329 + 7321 * b → (∀ x, x < 76 → ν x = μ x) → ν 76 0 = 77 → ν 76 1 = 106 → FXr 77 106 ν → (∀ k, 0 ≤ k → k < b → ν 106 k = 106 + 1 + 29 * k) → FXr 107 (107 + 29 * b) ν → B_X2_init_27 G Q c0 s0 m ν 76 7 b := by
    intro d
    induction d with
    | zero =>
      intro b m c0 s0 ν e b0 hm hc hs hF h0 h1 hA hB hD
      have eb : b = 8 := by omega
      subst eb
      have em : m = 339 := by omega
      subst em
      refine b_X2_init_27 hg ⟨ho _ (by decide), by rw [h1]; exact Oc_of St_106 (by decide), fun _ => ⟨ho _ (by decide), ho _ (by decide), ⟨by omega, by omega⟩, q _ (fun x hx => by rw [up_ne (by omega), up_ne (by omega)]; exact hF x hx) ?_ ?_ (up_self _ _ _ _)⟩, fun z => absurd (by decide) z⟩
      · have k1 : ∀ x, x ≠ 76 → (up (up ν 76 2 0) 76 3 0) x = ν x := fun x hx => by rw [up_ne hx, up_ne hx]
        refine FXr.app (b := 76 + 1) (FXr.one (fun k hk => ?_)) (FXr.app (b := 106) (hA.keep (fun x x0 x1 => k1 x (by omega))) (FXr.app (b := 106 + 1) (FXr.one (fun k hk => ?_)) (hD.keep (fun x x0 x1 => k1 x (by omega)))))
        · rw [St_76.2.2] at hk
          rcases fin2 hk with rfl | rfl
          · rw [up_oth (by decide), up_oth (by decide), h0]
            unfold FV
            rw [St_76.2.2]
            rfl
          · rw [up_oth (by decide), up_oth (by decide), h1]
            unfold FV
            rw [St_76.2.2]
            rfl
        · rw [St_106.2.2] at hk
          have hk' : 0 ≤ k ∧ k < 8 := by simpa [finK] using hk
          rw [k1 106 (by decide), hB k hk'.1 hk'.2]
          unfold FV
          rw [St_106.2.2]
          rfl
      · rw [up_oth (by decide), up_self]
    | succ d ih =>
      intro b m c0 s0 ν e b0 hm hc hs hF h0 h1 hA hB hD
      have ob := st_24 St_106 b0 (by omega : b < 8)
      have em : (m : Int) = 106 + 1 + 29 * b := by omega
      refine b_X2_init_27 hg ⟨ho m (by omega), by rw [h1]; exact Oc_of St_106 (by omega), fun z => absurd z (by omega), fun _ => ⟨ho m (by omega), ⟨by rw [em]; exact ob.2.2, by omega, by omega⟩, ⟨by omega, by omega⟩, I_situation hg (by rw [em]; exact ob) (by omega) (fun n' ξ g1 g2 g3 _ _ _ => ?_)⟩⟩
      have x1 : ξ 76 = ν 76 := by rw [g2 76 (by omega), nw_ne (by omega)]
      have x4 : ξ 106 = ν 106 := by rw [g2 106 (by omega), nw_ne (by omega)]
      rw [h1]
      refine ⟨⟨Oc_of St_106 (by omega), ⟨b0, by omega⟩, ?_⟩, by unfold inR; omega, ih (b + 1) n' _ _ _ (by omega) (by omega) (by omega) (by omega) (by omega) (fun x hx => ?_) ?_ ?_ ?_ (fun k k0 k1 => ?_) ?_⟩
      · rw [em]; exact Oc_of ob (by omega)
      · rw [up_ne (by omega), g2 x (by omega), nw_ne (by omega)]; exact hF x hx
      · rw [up_ne (by omega), x1]; exact h0
      · rw [up_ne (by omega), x1]; exact h1
      · exact hA.keep (fun x x0 x1 => by rw [up_ne (by omega), g2 x (by omega), nw_ne (by omega)])
      · by_cases ek : k = b
        · rw [ek, up_self]; omega
        · rw [up_oth ek, x4]; exact hB k k0 (by omega)
      · have e8 : 107 + 29 * (b + 1) = (m : Int) + 29 := by omega
        rw [e8]
        refine FXr.app (b := (m : Int)) ?_ (g3.keep (fun x x0 x1 => up_ne (by omega)))
        rw [hm]
        exact hD.keep (fun x x0 x1 => by rw [up_ne (by omega), g2 x (by omega), nw_ne (by omega)])
  refine m_X2_init hg ⟨by decide, ⟨St_77.2.2, by decide, by decide⟩, ⟨by decide, by decide⟩, I_situation hg (v0 := ((77 : Nat) : Int)) St_77 (by decide) (fun n' ν g1 g2 g3 _ _ _ => ?_)⟩
  have e4 : n' = 106 := by omega
  subst e4
  refine ⟨ho _ (by decide), ⟨St_106.2.2, by decide, by decide⟩, ho _ (by decide), loop 8 0 (106 + 1) _ _ _ (by decide) (by decide) (by decide) (by decide) (by decide) (fun x hx => ?_) ?_ ?_ ?_ (fun k k0 k1 => by omega) (fun x k x0 x1 => by omega)⟩
  · rw [up_ne (by omega), nw_ne (by omega), up_ne (by omega), g2 x (by omega), nw_ne (by omega)]
  · rw [up_oth (by decide), nw_ne (by decide), up_self]; rfl
  · rw [up_self]; rfl
  · exact g3.keep (fun x x0 x1 => by rw [up_ne (by omega), nw_ne (by omega), up_ne (by omega)])
end Init
