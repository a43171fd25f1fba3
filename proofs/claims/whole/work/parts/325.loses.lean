-- the class: bundles lose hops, stand in the way
theorem BRel_0 {μ ν : Mem} {b v : Int} {of s s' : Int → Int} (hb : BRel of s μ b v) (e : ∀ w, 0 ≤ w → w < 6 → it s' b w = it s b w) (h1 : ∀ k, k ≠ 8 → ν v k = μ v k) (hN : rwN s' b = 0) (h9 : ν (v + 1) 2 = 0) : BRel of s' ν b v := by
  obtain ⟨a2, a3, a4, a5, a6, a7, a9, ac⟩ := hb
  exact ⟨by rw [h1 2 (by decide), a2, e 4 (by decide) (by decide)], by rw [h1 3 (by decide), a3, e 1 (by decide) (by decide)], by rw [h1 4 (by decide), a4, e 0 (by decide) (by decide)], by rw [h1 5 (by decide), a5, e 2 (by decide) (by decide)], by rw [h1 6 (by decide), a6, e 3 (by decide) (by decide)], by rw [h1 7 (by decide), a7, e 5 (by decide) (by decide)], by rw [h9, hN], fun i i0 i1 => by omega⟩
/-- what a bundle is when it has lost a hop on a contact -/
noncomputable def lsP (of s : Int → Int) (c b : Int) : Int → Int := giveP (@ite _ (cutB of s c b) (Classical.propDecidable _) (set1 s (3 + 20 * b + 7) (-9)) s) b
/-- a hop to come of o shares a tick with a row of b -/
def wayR (of s : Int → Int) (o b : Int) : Prop := ∃ k, 0 ≤ k ∧ k < it s o 9 ∧ ∃ m, 0 ≤ m ∧ m < rwN s b ∧ hopC s o k = rwC s b m ∧ hopB s o k < rwB s b m + tkD of (it s b 0) (rwC s b m) ∧ rwB s b m < hopB s o k + tkD of (it s o 0) (hopC s o k)
theorem row_hop {s : Int → Int} {b : Int} (k : Int) (k0 : 0 ≤ k) : rwC s b (onP s b + k) = hopC s b k ∧ rwB s b (onP s b + k) = hopB s b k := by
  rcases onP_in s b with ⟨h7, e⟩ | ⟨h7, e⟩
  · rw [e, show 0 + k = k by omega]
    exact row_off h7 k
  · rw [e]
    have := (row_on h7).2.2 (1 + k) (by omega)
    rw [show 1 + k - 1 = k by omega] at this
    exact this
section Loses
variable {G : GT} {n : Nat} {μ : Mem}
theorem S_losesB (hg : gx G = FX) {Q : Int → Nat → Mem → Prop} {nd cn b v c : Int} {of s : Int → Int} (o : St v 0 9) (hp : PW nd cn of) (hc : 0 ≤ c ∧ c < cn) (hB : BR nd cn of s b) (hb : BRel of s μ b v) (hC : CH of s b) (hW : NW of s b)
    (q0 : ¬ lostB of s c b → Q 0 n μ) (q1 : lostB of s c b → ∀ ν, FrB v μ ν → ν v = μ v → BRel of (lsP of s c b) ν b v → Q 1 n ν) : CI G Y_X0_loses [.inr v, .inl c, .inl (s 0)] n μ Q := by
  have hrN := rwN_in hB
  have h90 := hB.2.2.2.2.2.2.2.2.2.2.2.2.2.1
  have h9 := hb.2.2.2.2.2.2.1
  have hon := onP_in s b
  have hcf := hp.2.2.2.2 c hc.1 hc.2
  have hdc := tkD_le (of := of) (c := c) hB.1 hB.2.1 hcf.2.2.2.2.2.2.2.2.2.1 hcf.2.2.2.2.2.2.2.2.2.2.1
  have hnow := hop_now hp hB hC hW
  have hne : ¬ (3 + 20 * b + 9 = 3 + 20 * b + 7) := by omega
  -- which rows count
  have lost : ∀ i, 0 ≤ i → i < rwN s b → rwC s b i = c → s 0 < rwB s b i + tkD of (it s b 0) (rwC s b i) → lostB of s c b := by
    intro i i0 i1 e1 e2
    unfold rwN at i1
    rcases hon with ⟨h7, e⟩ | ⟨h7, e⟩
    · rw [(row_off h7 i).1] at e1
      exact Or.inr ⟨i, i0, by omega, e1⟩
    · have hr := row_on h7
      by_cases ei : i = 0
      · rw [ei, hr.1] at e1
        rw [ei, hr.1, hr.2.1, e1] at e2
        exact Or.inl ⟨e1, e2⟩
      · rw [(hr.2.2 i (by omega)).1] at e1
        exact Or.inr ⟨i - 1, by omega, by omega, e1⟩
  have rows : lostB of s c b → ∃ i, 0 ≤ i ∧ i < rwN s b ∧ rwC s b i = c ∧ s 0 < rwB s b i + tkD of (it s b 0) (rwC s b i) := by
    rintro (h | ⟨k, k0, k1, h⟩)
    · obtain ⟨h1, h2⟩ := h
      have h7 : it s b 7 ≠ -9 := by omega
      have hr := row_on h7
      have e := (hon.resolve_left (fun q => h7 q.1)).2
      refine ⟨0, by decide, by unfold rwN; omega, by rw [hr.1, h1], ?_⟩
      rw [hr.1, hr.2.1, h1]
      exact h2
    · have hr := row_hop (s := s) (b := b) k k0
      refine ⟨onP s b + k, by omega, by unfold rwN; omega, by rw [hr.1, h], ?_⟩
      rw [hr.1, hr.2, h]
      have := hnow k k0 k1
      omega
  -- the cut
  have cutQ : ∀ i, 0 ≤ i → i < rwN s b → rwC s b i = c → s 0 < rwB s b i + tkD of (it s b 0) (rwC s b i) → (∀ j, 0 ≤ j → j < i → ¬ (rwC s b j = c ∧ s 0 < rwB s b j + tkD of (it s b 0) (rwC s b j))) → B_X0_loses_56 G Q n μ (if i = 0 then 0 else onP s b) (v + 1) := by
    intro i i0 i1 e1 e2 hfirst
    have hl := lost i i0 i1 e1 e2
    have q := q1 hl
    have hcut : (if (if i = 0 then 0 else onP s b) < μ (v + 1) 2 then (if i = 0 then 0 else onP s b) else μ (v + 1) 2) = (if i = 0 then 0 else onP s b) := by
      unfold rwN at h9 i1
      by_cases ei : i = 0
      · rw [if_pos ei]; split <;> omega
      · rw [if_neg ei]; split <;> omega
    refine b_X0_loses_56 hg (st_0_1 o) (T_cut hg (st_0_1 o) (by split <;> omega) (by omega) ?_)
    rw [hcut]
    refine q _ (FrB.rf.t ButT.rf.r) (up_ne (by omega)) ?_
    unfold lsP
    by_cases hcb : cutB of s c b
    · rw [if_pos hcb]
      have h7 : it s b 7 ≠ -9 := by have := hcb.1; omega
      have hr := row_on h7
      have ei : i = 0 := by
        by_cases ei : i = 0
        · exact ei
        · refine absurd ?_ (hfirst 0 (by decide) (by omega))
          rw [hr.1, hr.2.1, hcb.1]
          exact ⟨rfl, hcb.2⟩
      rw [if_pos ei]
      have f : ∀ w, 0 ≤ w → w < 20 → w ≠ 7 → w ≠ 9 → it (giveP (set1 s (3 + 20 * b + 7) (-9)) b) b w = it s b w := fun w w0 w1 w7 w9 => (it_set_ne (by omega) ⟨w0, w1⟩ (Or.inr w9)).trans (it_set_ne (by omega) ⟨w0, w1⟩ (Or.inr w7))
      have f7 : it (giveP (set1 s (3 + 20 * b + 7) (-9)) b) b 7 = -9 := (it_set_ne (by omega) (by omega) (Or.inr (by decide))).trans (it_set_at (by omega))
      have f9 : it (giveP (set1 s (3 + 20 * b + 7) (-9)) b) b 9 = 0 := it_set_at (by omega)
      refine BRel_0 hb (fun w w0 w1 => f w w0 (by omega) (by omega) (by omega)) (fun k _ => by rw [up_ne (by omega)]) ?_ (up_self _ _ _ _)
      unfold rwN
      have := ((onP_in (giveP (set1 s (3 + 20 * b + 7) (-9)) b) b).resolve_right (fun q => q.1 f7)).2
      omega
    · rw [if_neg hcb]
      have hiz : (if i = 0 then 0 else onP s b) = onP s b := by
        by_cases ei : i = 0
        · rw [if_pos ei]
          rcases hon with ⟨h7, e⟩ | ⟨h7, e⟩
          · exact e.symm
          · have hr := row_on h7
            rw [ei, hr.1] at e1
            rw [ei, hr.1, hr.2.1, e1] at e2
            exact absurd ⟨e1, e2⟩ hcb
        · rw [if_neg ei]
      rw [hiz]
      exact BRel_give hB hb (fun k _ => by rw [up_ne (by omega)]) (up_self _ _ _ _) (fun j _ _ => by rw [up_ne (by omega)])
  have key : ∀ (d : Nat) (i : Int), i + d = rwN s b → 0 ≤ i → (∀ j, 0 ≤ j → j < i → ¬ (rwC s b j = c ∧ s 0 < rwB s b j + tkD of (it s b 0) (rwC s b j))) → B_X0_loses_2 G Q n μ v c (s 0) i := by
    intro d
    induction d with
    | zero =>
      intro i e i0 h
      refine b_X0_loses_2 hg o ⟨fun _ => q0 (fun hT => ?_), fun z => absurd (by omega) z⟩
      obtain ⟨j, j0, j1, j2, j3⟩ := rows hT
      exact h j j0 (by omega) ⟨j2, j3⟩
    | succ d ih =>
      intro i e i0 h
      have next : ¬ (rwC s b i = c ∧ s 0 < rwB s b i + tkD of (it s b 0) (rwC s b i)) → inR (i + 1) ∧ B_X0_loses_2 G Q n μ v c (s 0) (i + 1) := fun hn => ⟨by unfold inR; omega, ih (i + 1) (by omega) (by omega) (fun j j0 j1 => by
        by_cases ej : j = i
        · rw [ej]; exact hn
        · exact h j j0 (by omega))⟩
      refine b_X0_loses_2 hg o ⟨fun z => absurd z (by omega), fun _ => S_cell hg o hB hb (by decide) (fun _ _ => ?_) (fun w => absurd ⟨i0, by omega⟩ w)⟩
      rw [if_pos rfl]
      refine ⟨fun z => next (fun h => z h.1), fun z => S_cell hg o hB hb (by decide) (fun _ _ => ?_) (fun w => absurd ⟨i0, by omega⟩ w)⟩
      rw [if_neg (by decide), if_neg (by decide), if_pos rfl]
      refine ⟨fun y => next (fun h => by omega), fun y => ?_⟩
      have hq := cutQ i i0 (by omega) z (by omega) h
      refine ⟨fun x => S_onWay hg o hp hB hb hC hW ?_, fun x => ?_⟩
      · rw [if_neg x] at hq; exact hq
      · rw [if_pos x] at hq; exact hq
  exact m_X0_loses hg o (key (rwN s b).toNat 0 (by omega) (by decide) (fun j j0 j1 => by omega))
theorem S_stands (hg : gx G = FX) {Q : Int → Nat → Mem → Prop} {nd cn b ob v w : Int} {of s : Int → Int} (o : St v 0 9) (o' : St w 0 9) (hp : PW nd cn of) (hO : BR nd cn of s ob) (hOr : BRel of s μ ob v) (hC : CH of s ob) (hW : NW of s ob) (hB : BR nd cn of s b) (hb : BRel of s μ b w)
    (q0 : ¬ wayR of s ob b → Q 0 n μ) (q1 : wayR of s ob b → Q 1 n μ) : CI G Y_X0_standsInTheWayOf [.inr v, .inr w, .inl (s 0)] n μ Q := by
  have hrN := rwN_in hB
  have hrO := rwN_in hO
  have h9 := hb.2.2.2.2.2.2.1
  have h9o := hOr.2.2.2.2.2.2.1
  have hon := onP_in s ob
  have h90 := hO.2.2.2.2.2.2.2.2.2.2.2.2.2.1
  have eN : rwN s ob = onP s ob + it s ob 9 := rfl
  refine m_X0_standsInTheWayOf hg o o' (S_onWay hg o hp hO hOr hC hW ?_)
  have key : ∀ (d : Nat) (k : Int), k + d = it s ob 9 → 0 ≤ k → (∀ k', 0 ≤ k' → k' < k → ∀ m, 0 ≤ m → m < rwN s b → ¬ (hopC s ob k' = rwC s b m ∧ hopB s ob k' < rwB s b m + tkD of (it s b 0) (rwC s b m) ∧ rwB s b m < hopB s ob k' + tkD of (it s ob 0) (hopC s ob k'))) → B_X0_standsInTheWayOf_6 G Q n μ v w (onP s ob + k) := by
    intro d
    induction d with
    | zero =>
      intro k e k0 h
      refine b_X0_standsInTheWayOf_6 hg o o' ⟨fun _ => q0 ?_, fun z => absurd (by omega) z⟩
      rintro ⟨k', a0, a1, m, m0, m1, hm⟩
      exact h k' a0 (by omega) m m0 m1 hm
    | succ d ih =>
      intro k e k0 h
      have hr := row_hop (s := s) (b := ob) k k0
      have inner : ∀ (d' : Nat) (m : Int), m + d' = rwN s b → 0 ≤ m → (∀ m', 0 ≤ m' → m' < m → ¬ (hopC s ob k = rwC s b m' ∧ hopB s ob k < rwB s b m' + tkD of (it s b 0) (rwC s b m') ∧ rwB s b m' < hopB s ob k + tkD of (it s ob 0) (hopC s ob k))) → B_X0_standsInTheWayOf_20 G Q n μ v w (onP s ob + k) m := by
        intro d'
        induction d' with
        | zero =>
          intro m em m0 hm
          refine b_X0_standsInTheWayOf_20 hg o o' ⟨fun _ => ⟨by unfold inR; omega, ?_⟩, fun z => absurd (by omega) z⟩
          rw [show onP s ob + k + 1 = onP s ob + (k + 1) by omega]
          refine ih (k + 1) (by omega) (by omega) (fun k' a0 a1 m' b0 b1 => ?_)
          by_cases ek : k' = k
          · rw [ek]; exact hm m' b0 (by omega)
          · exact h k' a0 (by omega) m' b0 b1
        | succ d' ihd =>
          intro m em m0 hm
          have next : ¬ (hopC s ob k = rwC s b m ∧ hopB s ob k < rwB s b m + tkD of (it s b 0) (rwC s b m) ∧ rwB s b m < hopB s ob k + tkD of (it s ob 0) (hopC s ob k)) → inR (m + 1) ∧ B_X0_standsInTheWayOf_20 G Q n μ v w (onP s ob + k) (m + 1) := fun hn => ⟨by unfold inR; omega, ihd (m + 1) (by omega) (by omega) (fun m' a0 a1 => by
            by_cases ej : m' = m
            · rw [ej]; exact hn
            · exact hm m' a0 (by omega))⟩
          refine b_X0_standsInTheWayOf_20 hg o o' ⟨fun z => absurd z (by omega), fun _ => S_cell hg o hO hOr (by decide) (fun _ _ => S_cell hg o' hB hb (by decide) (fun _ _ => ?_) (fun w => absurd ⟨m0, by omega⟩ w)) (fun w => absurd ⟨by omega, by omega⟩ w)⟩
          rw [if_pos rfl, if_pos rfl, hr.1]
          refine ⟨fun z => next (fun h => z h.1), fun z => S_cell hg o hO hOr (by decide) (fun _ _ => S_cell hg o' hB hb (by decide) (fun _ _ => ?_) (fun w => absurd ⟨m0, by omega⟩ w)) (fun w => absurd ⟨by omega, by omega⟩ w)⟩
          rw [if_neg (by decide), if_pos rfl, if_neg (by decide), if_neg (by decide), if_pos rfl, hr.2]
          refine ⟨fun y => next (fun h => by omega), fun y => S_cell hg o' hB hb (by decide) (fun _ _ => S_cell hg o hO hOr (by decide) (fun _ _ => ?_) (fun w => absurd ⟨by omega, by omega⟩ w)) (fun w => absurd ⟨m0, by omega⟩ w)⟩
          rw [if_neg (by decide), if_neg (by decide), if_pos rfl, if_neg (by decide), if_pos rfl, hr.1, hr.2]
          exact ⟨fun x => next (fun h => by omega), fun x => q1 ⟨k, k0, by omega, m, m0, by omega, z, by omega, by omega⟩⟩
      exact b_X0_standsInTheWayOf_6 hg o o' ⟨fun z => absurd z (by omega), fun _ => inner (rwN s b).toNat 0 (by omega) (by decide) (fun m' a0 a1 => by omega)⟩
  have := key (it s ob 9).toNat 0 (by omega) (by decide) (fun k' a0 a1 => by omega)
  rw [Int.add_zero] at this
  exact this
end Loses
