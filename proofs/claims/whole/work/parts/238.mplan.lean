-- the model: plan
/-- the rows that reading a plan may change -/
def FrD (μ ν : Mem) : Prop := (∀ a, a ≠ 399 → a ≠ 401 → ν a = μ a) ∧ ∀ k, k ≠ 0 → k ≠ 4 → k ≠ 5 → k ≠ 19 → k ≠ 20 → k ≠ 21 → ν 399 k = μ 399 k
theorem FrD.rf {μ : Mem} : FrD μ μ := ⟨fun _ _ _ => rfl, fun _ _ _ _ _ _ _ => rfl⟩
theorem FrD.t {μ ν ξ : Mem} (h : FrD μ ν) (h2 : FrT ν ξ) : FrD μ ξ := ⟨fun a a1 a2 => (h2.1 a a1).trans (h.1 a a1 a2), fun k k0 k1 k2 k3 k4 k5 => (h2.2 k k3 k4 k5).trans (h.2 k k0 k1 k2 k3 k4 k5)⟩
theorem FrD.tr {μ ν ξ : Mem} (h : FrD μ ν) (h2 : FrD ν ξ) : FrD μ ξ := ⟨fun a a1 a2 => (h2.1 a a1 a2).trans (h.1 a a1 a2), fun k k0 k1 k2 k3 k4 k5 => (h2.2 k k0 k1 k2 k3 k4 k5).trans (h.2 k k0 k1 k2 k3 k4 k5)⟩
theorem FrD.rd {μ ν : Mem} {k v : Int} (h : FrD μ ν) : FrD μ (up ν 401 k v) := ⟨fun a a1 a2 => by rw [up_ne a2]; exact h.1 a a1 a2, fun k k0 k1 k2 k3 k4 k5 => by rw [up_ne (by decide)]; exact h.2 k k0 k1 k2 k3 k4 k5⟩
theorem FrD.f {μ ν : Mem} {k v : Int} (h : FrD μ ν) (hk : k = 0 ∨ k = 4 ∨ k = 5 ∨ k = 19 ∨ k = 20 ∨ k = 21) : FrD μ (up ν 399 k v) := ⟨fun a a1 a2 => by rw [up_ne a1]; exact h.1 a a1 a2, fun j k0 k1 k2 k3 k4 k5 => by rw [up_oth (by omega)]; exact h.2 j k0 k1 k2 k3 k4 k5⟩
theorem FrD.x {μ ν : Mem} (h : FrD μ ν) : ν 410 = μ 410 ∧ ν 399 17 = μ 399 17 := ⟨h.1 410 (by decide) (by decide), h.2 17 (by decide) (by decide) (by decide) (by decide) (by decide) (by decide)⟩
section MPlan
variable {G : GT} {n : Nat} {μ : Mem}
theorem S_reads (hg : gx G = FX) {Q : Int → Nat → Mem → Prop} {L k lo hi : Int} {x : Int → Int} (hx : TxP L x) (eL : μ 399 17 = L) (ex : μ 410 = x) (hp : 0 ≤ μ 399 19 ∧ μ 399 19 ≤ L) (h5 : 0 ≤ μ 399 5 ∧ μ 399 5 ≤ 7) (hk : 0 ≤ k ∧ k ≤ 5) (hlo : 0 ≤ lo ∧ lo ≤ 1000) (hhi : 0 ≤ hi ∧ hi ≤ 1000)
    (q0 : ∀ q, numP L x lo hi (-1) (μ 399 19) = .inl q → ∀ ν, FrD μ ν → ν 399 20 = q → Q 0 n ν)
    (q1 : ∀ r, numP L x lo hi (-1) (μ 399 19) = .inr r → ∀ ν, FrD μ ν → ν 399 20 = skP L x (μ 399 19) → ν 399 19 = r.2 → ν 399 4 = μ 399 4 → ν 399 5 = μ 399 5 → ν 401 = set1 (μ 401) (6 * μ 399 5 + k) r.1 → Q 1 n ν) : CI G Y_X11_reads [.inr 399, .inl k, .inl lo, .inl hi] n μ Q := by
  refine m_X11_reads hg (S_takes hg hx eL ex hp (fun ν hF h20 h21 h19 => ?_))
  obtain ⟨f10, f17, f01, f4, f5⟩ := hF.r
  have hs := skP_ge (L := L) (x := x) (μ 399 19)
  have htk := tokP_in hx (q := skP L x (μ 399 19)) (by omega) (hs.2.1 hp.2)
  rw [f5, h21]
  have hF' : FrD μ (up ν 401 (6 * μ 399 5 + k) (tokP L x (skP L x (μ 399 19)) - 1000)) := (FrD.rf.t hF).rd
  refine ⟨by omega, by omega, by omega, by omega, by omega, by omega, ?_⟩
  rw [show (up ν 401 (6 * μ 399 5 + k) (tokP L x (skP L x (μ 399 19)) - 1000)) 399 21 = tokP L x (skP L x (μ 399 19)) by rw [up_ne (by decide), h21]]
  refine S_in hg (fun c => ⟨Or.inl rfl, ?_⟩) (fun c => ⟨Or.inr rfl, ?_⟩)
  · refine q0 (skP L x (μ 399 19)) ?_ _ hF' (by rw [up_ne (by decide), h20])
    unfold numP
    rw [if_neg (fun q => c ⟨q.1, q.2.1⟩)]
  · refine q1 (tokP L x (skP L x (μ 399 19)) - 1000, nxtP L x (skP L x (μ 399 19))) ?_ _ hF' (by rw [up_ne (by decide), h20]) (by rw [up_ne (by decide), h19]) (by rw [up_ne (by decide), f4]) (by rw [up_ne (by decide), f5]) (by rw [up_row, f01])
    unfold numP
    rw [if_pos ⟨c.1, c.2, by omega⟩]
theorem S_readsContact (hg : gx G = FX) {Q : Int → Nat → Mem → Prop} {L : Int} {x : Int → Int} (hx : TxP L x) (eL : μ 399 17 = L) (ex : μ 410 = x) (hp : 0 ≤ μ 399 19 ∧ μ 399 19 ≤ L) (h5 : 0 ≤ μ 399 5 ∧ μ 399 5 ≤ 8) (h4 : 2 ≤ μ 399 4 ∧ μ 399 4 ≤ 6)
    (q8 : μ 399 5 = 8 → Q 0 n μ)
    (q0 : μ 399 5 ≤ 7 → ∀ q, contactP L x (μ 399 4) (μ 399 19) = .inl q → ∀ ν, FrD μ ν → ν 399 20 = q → Q 0 n ν)
    (q1 : μ 399 5 ≤ 7 → ∀ r, contactP L x (μ 399 4) (μ 399 19) = .inr r → ∀ ν, FrD μ ν → ν 399 19 = r.2 → ν 399 4 = μ 399 4 → ν 399 5 = μ 399 5 + 1 → ν 401 = set6 (μ 401) (6 * μ 399 5) r.1 → Q 1 n ν) : CI G Y_X11_readsContact [.inr 399] n μ Q := by
  refine m_X11_readsContact hg ⟨fun c8 => ⟨by omega, by omega, ?_⟩, q8⟩
  generalize hrc : μ 399 5 = rc at *
  generalize hnd : μ 399 4 = nd at *
  have h7 : 0 ≤ rc ∧ rc ≤ 7 := by omega
  have q0 := q0 h7.2
  have q1 := q1 h7.2
  unfold contactP at q0 q1
  refine S_reads hg hx eL ex hp (by omega) (by decide) (by decide) (by omega) (fun q hq ν hF h20 => ⟨fun _ => ?_, fun z => absurd rfl z⟩) (fun r hr ν hF h20 h19 e4 e5 e01 => ⟨fun z => absurd z (by decide), fun _ => ?_⟩)
  · rw [hq] at q0
    exact q0 q rfl ν hF h20
  rw [hr] at q0 q1
  simp only at q0 q1
  rw [hrc] at e5 e01
  rw [hnd] at e4
  have hp1 := numP_pos hp hr (by decide)
  have fx := hF.x
  have k1 := numP_ok hr
  rw [e4]
  refine ⟨by omega, S_reads hg hx (fx.2.trans eL) (fx.1.trans ex) (by omega) (by omega) (by decide) (by decide) (by omega) (fun q hq ν1 hF1 h201 => ⟨fun _ => ?_, fun z => absurd rfl z⟩) (fun r1 hr1 ν1 hF1 h201 h191 e41 e51 e011 => ⟨fun z => absurd z (by decide), fun _ => ?_⟩)⟩
  · rw [h19] at hq
    have hq2 : numP L x 0 (nd - 1) r.1 r.2 = .inl q := by
      have := numP_no hq
      unfold numP
      rw [if_neg (fun z => this.2 ⟨z.1, z.2.1, by omega⟩), this.1]
    rw [hq2] at q0
    exact q0 q rfl ν1 (hF.tr hF1) h201
  rw [h19] at hr1
  rw [e5, e01] at e011
  rw [e4] at e41
  rw [e5] at e51
  have k2 := numP_ok hr1
  refine ⟨by omega, by omega, by omega, ?_⟩
  have r0 : ν1 401 (6 * rc) = r.1 := by rw [e011, set1_ne (by omega), Int.add_zero, set1_at]
  have r1' : ν1 401 (6 * rc + 1) = r1.1 := by rw [e011, set1_at]
  rw [r0, r1']
  refine ⟨fun hne => ?_, fun heq => ?_⟩
  · have hn2 : numP L x 0 (nd - 1) r.1 r.2 = .inr r1 := by
      unfold numP
      rw [if_pos ⟨by omega, by omega, by omega⟩]
      have e : r1 = (r1.1, r1.2) := rfl
      rw [e, k2.2.2.2.2, k2.2.2.2.1]
      congr 2
      omega
    rw [hn2] at q0 q1
    simp only at q0 q1
    have hF1' := hF.tr hF1
    have fx1 := hF1'.x
    have hp2 := numP_pos ⟨by omega, by omega⟩ hr1 (by decide)
    refine S_reads hg hx (fx1.2.trans eL) (fx1.1.trans ex) (by omega) (by omega) (by decide) (by decide) (by decide) (fun q hq ν2 hF2 h202 => ⟨fun _ => ?_, fun z => absurd rfl z⟩) (fun r2 hr2 ν2 hF2 h202 h192 e42 e52 e012 => ⟨fun z => absurd z (by decide), fun _ => ?_⟩)
    · rw [h191] at hq
      rw [hq] at q0
      exact q0 q rfl ν2 (hF1'.tr hF2) h202
    rw [h191] at hr2
    rw [hr2] at q0 q1
    simp only at q0 q1
    rw [e51, e011] at e012
    rw [e41] at e42
    rw [e51] at e52
    have k3 := numP_ok hr2
    have hp3 := numP_pos ⟨by omega, by omega⟩ hr2 (by decide)
    have hF2' := hF1'.tr hF2
    have fx2 := hF2'.x
    have r2' : ν2 401 (6 * rc + 2) = r2.1 := by rw [e012, set1_at]
    rw [r2']
    refine ⟨by omega, by omega, by omega, ?_⟩
    refine S_reads hg hx (fx2.2.trans eL) (fx2.1.trans ex) (by omega) (by omega) (by decide) (by omega) (by decide) (fun q hq ν3 hF3 h203 => ⟨fun _ => ?_, fun z => absurd rfl z⟩) (fun r3 hr3 ν3 hF3 h203 h193 e43 e53 e013 => ⟨fun z => absurd z (by decide), fun _ => ?_⟩)
    · rw [h192] at hq
      rw [hq] at q0
      exact q0 q rfl ν3 (hF2'.tr hF3) h203
    rw [h192] at hr3
    rw [hr3] at q0 q1
    simp only at q0 q1
    rw [e52, e012] at e013
    rw [e42] at e43
    rw [e52] at e53
    have hp4 := numP_pos ⟨by omega, by omega⟩ hr3 (by omega)
    have hF3' := hF2'.tr hF3
    have fx3 := hF3'.x
    refine S_reads hg hx (fx3.2.trans eL) (fx3.1.trans ex) (by omega) (by omega) (by decide) (by decide) (by decide) (fun q hq ν4 hF4 h204 => ⟨fun _ => ?_, fun z => absurd rfl z⟩) (fun r4 hr4 ν4 hF4 h204 h194 e44 e54 e014 => ⟨fun z => absurd z (by decide), fun _ => ?_⟩)
    · rw [h193] at hq
      rw [hq] at q0
      exact q0 q rfl ν4 (hF3'.tr hF4) h204
    rw [h193] at hr4
    rw [hr4] at q0 q1
    simp only at q0 q1
    rw [e53, e013] at e014
    rw [e43] at e44
    rw [e53] at e54
    have hp5 := numP_pos ⟨by omega, by omega⟩ hr4 (by decide)
    have hF4' := hF3'.tr hF4
    have fx4 := hF4'.x
    refine S_reads hg hx (fx4.2.trans eL) (fx4.1.trans ex) (by omega) (by omega) (by decide) (by decide) (by decide) (fun q hq ν5 hF5 h205 => ⟨fun z => absurd rfl z, fun _ => ?_⟩) (fun r5 hr5 ν5 hF5 h205 h195 e45 e55 e015 => ⟨fun _ => ⟨by omega, ?_⟩, fun z => absurd z (by decide)⟩)
    · rw [h194] at hq
      rw [hq] at q0
      exact q0 q rfl ν5 (hF4'.tr hF5) h205
    rw [h194] at hr5
    rw [hr5] at q0 q1
    simp only at q0 q1
    rw [e54, e014] at e015
    rw [e44] at e45
    rw [e54] at e55
    refine q1 _ rfl _ ((hF4'.tr hF5).f (by decide)) (by rw [up_oth (by decide)]; exact h195) (by rw [up_oth (by decide)]; exact e45) (by rw [up_self, e55]) ?_
    rw [up_ne (by decide), e015]
    rfl
  · have hn2 : numP L x 0 (nd - 1) r.1 r.2 = .inl (skP L x r.2) := by
      unfold numP
      rw [if_neg (fun z => z.2.2 (by omega))]
    rw [hn2] at q0
    exact q0 _ rfl ν1 (hF.tr hF1) (by rw [h201, h19])
theorem S_becomes (hg : gx G = FX) {Q : Nat → Mem → Prop}
    (q : ∀ ν, (∀ a, a ≠ 399 → a ≠ 400 → a ≠ 402 → a ≠ 405 → ν a = μ a) → (∀ k, k ≠ 1 → k ≠ 2 → k ≠ 8 → k ≠ 13 → ν 399 k = μ 399 k) → ν 399 1 = μ 399 4 → ν 399 2 = μ 399 5 → ν 399 8 = 0 → ν 399 13 = 0 → (∀ j, 0 ≤ j → j < 48 → ν 400 j = μ 401 j) → ν 402 0 = 0 → ν 402 1 = 0 → ν 402 2 = 0 → ν 405 0 = 0 → ν 405 1 = 0 → Q n ν) : CV G Y_X11_becomes [.inr 399] n μ Q := by
  refine m_X11_becomes hg ?_
  have key : ∀ (d : Nat) (k : Int) (ν : Mem), k + d = 48 → 0 ≤ k → (∀ a, a ≠ 399 → a ≠ 400 → ν a = μ a) → (∀ k, k ≠ 1 → k ≠ 2 → ν 399 k = μ 399 k) → ν 399 1 = μ 399 4 → ν 399 2 = μ 399 5 → (∀ j, 0 ≤ j → j < k → ν 400 j = μ 401 j) → B_X11_becomes_18 G Q n ν k := by
    intro d
    induction d with
    | zero =>
      intro k ν e k0 h1 h2 h3 h4 h5
      refine b_X11_becomes_18 hg ⟨fun _ => q _ (fun a a1 a2 a3 a4 => ?_) (fun k k1 k2 k3 k4 => ?_) ?_ ?_ ?_ ?_ (fun j j0 j1 => ?_) ?_ ?_ ?_ ?_ ?_, fun z => absurd (by omega) z⟩
      · rw [up_ne a4, up_ne a4, up_ne a1, up_ne a1, up_ne a3, up_ne a3, up_ne a3]
        exact h1 a a1 a2
      · rw [up_ne (by decide), up_ne (by decide), up_oth k4, up_oth k3, up_ne (by decide), up_ne (by decide), up_ne (by decide)]
        exact h2 k k1 k2
      · rw [up_ne (by decide), up_ne (by decide), up_oth (by decide), up_oth (by decide), up_ne (by decide), up_ne (by decide), up_ne (by decide)]
        exact h3
      · rw [up_ne (by decide), up_ne (by decide), up_oth (by decide), up_oth (by decide), up_ne (by decide), up_ne (by decide), up_ne (by decide)]
        exact h4
      · rw [up_ne (by decide), up_ne (by decide), up_oth (by decide), up_self]
      · rw [up_ne (by decide), up_ne (by decide), up_self]
      · rw [up_ne (by decide), up_ne (by decide), up_ne (by decide), up_ne (by decide), up_ne (by decide), up_ne (by decide), up_ne (by decide)]
        exact h5 j j0 (by omega)
      · rw [up_ne (by decide), up_ne (by decide), up_ne (by decide), up_ne (by decide), up_oth (by decide), up_oth (by decide), up_self]
      · rw [up_ne (by decide), up_ne (by decide), up_ne (by decide), up_ne (by decide), up_oth (by decide), up_self]
      · rw [up_ne (by decide), up_ne (by decide), up_ne (by decide), up_ne (by decide), up_self]
      · rw [up_oth (by decide), up_self]
      · rw [up_self]
    | succ d ih =>
      intro k ν e k0 h1 h2 h3 h4 h5
      refine b_X11_becomes_18 hg ⟨fun z => absurd z (by omega), fun _ => ⟨by omega, by omega, by omega, ih (k + 1) _ (by omega) (by omega) (fun a a1 a2 => ?_) (fun j j1 j2 => ?_) ?_ ?_ (fun j j0 j1 => ?_)⟩⟩
      · rw [up_ne a2]; exact h1 a a1 a2
      · rw [up_ne (by decide)]; exact h2 j j1 j2
      · rw [up_ne (by decide)]; exact h3
      · rw [up_ne (by decide)]; exact h4
      · by_cases ej : j = k
        · rw [ej, up_self]; exact congrFun (h1 401 (by decide) (by decide)) k
        · rw [up_oth ej]; exact h5 j j0 (by omega)
  refine key 48 0 _ (by decide) (by decide) (fun a a1 a2 => ?_) (fun k k1 k2 => ?_) ?_ ?_ (fun j j0 j1 => by omega)
  · rw [up_ne a1, up_ne a1]
  · rw [up_oth k2, up_oth k1]
  · rw [up_oth (by decide), up_self]
  · rw [up_self, up_oth (by decide)]
end MPlan
