-- the constructors of the class and of the model, whole
/-- what the class's constructor leaves -/
def IC (ν : Mem) : Prop := FXr 0 399 ν ∧ ν 0 11 = 0 ∧ ν 1 1 = 0 ∧ (ν 7 2 = 0 ∧ ν 7 3 = 2) ∧ ν 13 2 = 0 ∧ (ν 18 2 = 0 ∧ ν 18 3 = 0 ∧ ν 18 4 = 0) ∧ (ν 76 2 = 0 ∧ ν 76 3 = 0) ∧ ν 397 2 = 0
section Init2
variable {G : GT} {n : Nat} {μ : Mem}
theorem I_class (hg : gx G = fun _ _ => True) {Q : Nat → Mem → Prop} (hn : n = 1) (q : ∀ ν, IC ν → Q 399 ν) : CV G Y_X10_init [.inr 0] n μ Q := by
  subst hn
  have ho : ∀ m : Nat, 0 < m → Oc m 0 10 12 := fun m hm => Oc_of St_0 (by omega)
  refine m_X10_init hg ⟨by decide, ⟨St_1.2.2, by decide, by decide⟩, ⟨by decide, by decide⟩, ?_⟩
  -- the text
  have o1 : ∀ m : Nat, 1 < m → Oc m 1 9 2 := fun m hm => Oc_of St_1 (by omega)
  refine m_X9_init hg ⟨by decide, ⟨St_2.2.2, by decide, by decide⟩, o1 _ (by decide), o1 _ (by decide), ⟨by decide, by decide⟩, ho _ (by decide), ⟨St_3.2.2, by decide, by decide⟩, ho _ (by decide), ⟨by decide, by decide⟩, ?_⟩
  -- facts of the first three cells, and of the fields of the class's own
  have t10 : (up (up (nw (nw μ ((1 : Nat) : Int) (objD 9)) ((2 : Nat) : Int) zeroD) 1 0 2) 1 1 0) 1 0 = 2 := by rw [up_oth (by decide), up_self]
  have t11 : (up (up (nw (nw μ ((1 : Nat) : Int) (objD 9)) ((2 : Nat) : Int) zeroD) 1 0 2) 1 1 0) 1 1 = 0 := up_self _ _ _ _
  change CV G Y_X4_init [.inr ((3 : Nat) : Int), .inr ((nw (up (up (up (nw (nw μ ((1 : Nat) : Int) (objD 9)) ((2 : Nat) : Int) zeroD) 1 0 2) 1 1 0) 0 0 ((1 : Nat) : Int)) ((3 : Nat) : Int) (objD 4)) 0 0)] (3 + 1) (nw (up (up (up (nw (nw μ ((1 : Nat) : Int) (objD 9)) ((2 : Nat) : Int) zeroD) 1 0 2) 1 1 0) 0 0 ((1 : Nat) : Int)) ((3 : Nat) : Int) (objD 4)) _
  generalize (up (up (nw (nw μ ((1 : Nat) : Int) (objD 9)) ((2 : Nat) : Int) zeroD) 1 0 2) 1 1 0) = ν1 at t10 t11 ⊢
  have t00 : (nw (up ν1 0 0 ((1 : Nat) : Int)) ((3 : Nat) : Int) (objD 4)) 0 0 = 1 := by rw [nw_ne (by decide), up_self]; rfl
  rw [t00]
  have a1 : FXr 1 3 (nw (up ν1 0 0 ((1 : Nat) : Int)) ((3 : Nat) : Int) (objD 4)) := by
    refine FXr.app (b := 2) (FXr.one (a := 1) (fun k hk => ?_)) (FXr.non (a := 2) St_2 (fun k => rfl))
    rw [St_1.2.2] at hk
    have hk' : k = 0 := by simpa [finK] using hk
    subst hk'
    rw [nw_ne (by decide), up_ne (by decide), t10]
    unfold FV
    rw [St_1.2.2]
    rfl
  have b11 : (nw (up ν1 0 0 ((1 : Nat) : Int)) ((3 : Nat) : Int) (objD 4)) 1 1 = 0 := by rw [nw_ne (by decide), up_ne (by decide)]; exact t11
  generalize (nw (up ν1 0 0 ((1 : Nat) : Int)) ((3 : Nat) : Int) (objD 4)) = ν2 at t00 a1 b11 ⊢
  -- the reader, with its draft
  have o3 : ∀ m : Nat, 3 < m → Oc m 3 4 4 := fun m hm => Oc_of St_3 (by omega)
  refine m_X4_init hg ⟨by decide, o3 _ (by decide), ⟨St_4.2.2, by decide, by decide⟩, ⟨by decide, by decide⟩, I_network hg (v0 := ((4 : Nat) : Int)) St_4 (by decide) (fun n5 ν3 e5 f3 g3 _ _ => ?_)⟩
  have e5' : n5 = 7 := by omega
  subst e5'
  have f3 : ∀ x : Int, x < 4 → ν3 x = (nw (up ν2 3 0 1) 4 (objD 3)) x := f3
  refine ⟨o3 _ (by decide), o3 _ (by decide), o3 _ (by decide), ⟨by decide, by decide⟩, ho _ (by decide), ⟨St_7.2.2, by decide, by decide⟩, ⟨by decide, by decide⟩, ?_⟩
  have k3 : ∀ x : Int, x < 3 → ν3 x = ν2 x := fun x hx => by rw [f3 x (by omega), nw_ne (by omega), up_ne (by omega)]
  have k30 : ν3 3 0 = 1 := by rw [f3 3 (by decide), nw_ne (by decide), up_self]
  have a2 : FXr 1 7 (up (up (up ν3 3 1 ((4 : Nat) : Int)) 3 2 0) 3 3 (-1)) := by
    refine FXr.app (b := 3) (a1.keep (fun x x0 x1 => by rw [up_ne (by omega), up_ne (by omega), up_ne (by omega)]; exact k3 x x1)) (FXr.app (b := 3 + 1) (FXr.one (fun k hk => ?_)) (g3.keep (fun x x0 x1 => by rw [up_ne (by omega), up_ne (by omega), up_ne (by omega)])))
    rw [St_3.2.2] at hk
    rcases fin2 hk with rfl | rfl
    · rw [up_oth (by decide), up_oth (by decide), up_oth (by decide), k30]
      unfold FV
      rw [St_3.2.2]
      rfl
    · rw [up_oth (by decide), up_oth (by decide), up_self]
      unfold FV
      rw [St_3.2.2]
      rfl
  have b2 : (up (up (up ν3 3 1 ((4 : Nat) : Int)) 3 2 0) 3 3 (-1)) 0 0 = 1 ∧ (up (up (up ν3 3 1 ((4 : Nat) : Int)) 3 2 0) 3 3 (-1)) 1 1 = 0 := by
    refine ⟨?_, ?_⟩
    · rw [up_ne (by decide), up_ne (by decide), up_ne (by decide), k3 0 (by decide)]; exact t00
    · rw [up_ne (by decide), up_ne (by decide), up_ne (by decide), k3 1 (by decide)]; exact b11
  generalize (up (up (up ν3 3 1 ((4 : Nat) : Int)) 3 2 0) 3 3 (-1)) = ν4 at a2 b2 ⊢
  -- the network
  refine I_network hg (v0 := ((7 : Nat) : Int)) St_7 (by decide) (fun n15 ν5 e15 f5 g5 c52 c53 => ?_)
  have e15' : n15 = 10 := by omega
  subst e15'
  have k5 : ∀ x : Int, 0 < x → x < 7 → ν5 x = ν4 x := fun x h0 hx => by rw [f5 x hx, nw_ne (by omega), up_ne (by omega)]
  have k50 : ν5 0 0 = 1 ∧ ν5 0 1 = 3 := by
    refine ⟨?_, ?_⟩
    · rw [f5 0 (by decide), nw_ne (by decide), up_oth (by decide)]; exact b2.1
    · rw [f5 0 (by decide), nw_ne (by decide), up_self]; rfl
  have a5 : FXr 1 10 ν5 := FXr.app (b := 7) (a2.keep (fun x x0 x1 => k5 x (by omega) x1)) g5
  have b5 : ν5 1 1 = 0 := by rw [k5 1 (by decide) (by decide)]; exact b2.2
  refine ⟨ho _ (by decide), ⟨St_10.2.2, by decide, by decide⟩, ho _ (by decide), ⟨by decide, by decide⟩, ?_⟩
  have t02 : (nw (up ν5 0 2 ((7 : Nat) : Int)) ((10 : Nat) : Int) (objD 6)) 0 2 = 7 := by rw [nw_ne (by decide), up_self]; rfl
  rw [t02]
  -- the router
  have o10 : ∀ m : Nat, 10 < m → Oc m 10 6 8 := fun m hm => Oc_of St_10 (by omega)
  have T11 : St 11 8 3 := St_11
  have T12 : SH ((12 : Nat) : Int) = (20, 800) := by decide +kernel
  have T14 : SH ((14 : Nat) : Int) = (20, 24) := by decide +kernel
  have T16 : SH ((16 : Nat) : Int) = (20, 24) := by decide +kernel
  refine m_X6_init hg ⟨by decide, o10 _ (by decide), ⟨St_11.2.2, by decide, by decide⟩, ⟨by decide, by decide⟩, I_table hg (v0 := ((11 : Nat) : Int)) (N := 800) St_11 (by decide) (by decide) T12 (by decide) (by decide) (fun n6 ν6 e6 f6 g6 _ => ?_)⟩
  have e6' : n6 = 13 := by omega
  subst e6'
  have f6 : ∀ x : Int, x < 11 → ν6 x = (nw (up (nw (up ν5 0 2 7) 10 (objD 6)) 10 0 7) 11 (objD 8)) x := f6
  refine ⟨o10 _ (by decide), ⟨St_13.2.2, by decide, by decide⟩, ⟨by decide, by decide⟩, I_table hg (v0 := ((13 : Nat) : Int)) (N := 24) St_13 (by decide) (by decide) T14 (by decide) (by decide) (fun n7 ν7 e7 f7 g7 c7 => ?_)⟩
  have e7' : n7 = 15 := by omega
  subst e7'
  have f7 : ∀ x : Int, x < 13 → ν7 x = (nw (up ν6 10 1 11) 13 (objD 8)) x := f7
  refine ⟨o10 _ (by decide), ⟨St_15.2.2, by decide, by decide⟩, ⟨by decide, by decide⟩, I_table hg (v0 := ((15 : Nat) : Int)) (N := 24) St_15 (by decide) (by decide) T16 (by decide) (by decide) (fun n8 ν8 e8 f8 g8 _ => ?_)⟩
  have e8' : n8 = 17 := by omega
  subst e8'
  have f8 : ∀ x : Int, x < 15 → ν8 x = (nw (up ν7 10 2 13) 15 (objD 8)) x := f8
  refine ⟨o10 _ (by decide), o10 _ (by decide), ⟨by decide, by decide⟩, ho _ (by decide), ⟨St_17.2.2, by decide, by decide⟩, ho _ (by decide), ⟨by decide, by decide⟩, ?_⟩
  have k8 : ∀ x : Int, x < 10 → x ≠ 0 → (up (up ν8 10 3 ((15 : Nat) : Int)) 10 4 1000) x = ν5 x := fun x hx h0 => by
    rw [up_ne (by omega), up_ne (by omega), f8 x (by omega), nw_ne (by omega), up_ne (by omega), f7 x (by omega), nw_ne (by omega), up_ne (by omega), f6 x (by omega), nw_ne (by omega), up_ne (by omega), nw_ne (by omega), up_ne (by omega)]
  have k80 : (up (up ν8 10 3 ((15 : Nat) : Int)) 10 4 1000) 0 = (up ν5 0 2 7) 0 := by
    rw [up_ne (by decide), up_ne (by decide), f8 0 (by decide), nw_ne (by decide), up_ne (by decide), f7 0 (by decide), nw_ne (by decide), up_ne (by decide), f6 0 (by decide), nw_ne (by decide), up_ne (by decide), nw_ne (by decide)]
  have k10 : ∀ k v, k = 0 ∧ v = 7 ∨ k = 1 ∧ v = 11 ∨ k = 2 ∧ v = 13 ∨ k = 3 ∧ v = 15 → (up (up ν8 10 3 ((15 : Nat) : Int)) 10 4 1000) 10 k = v := by
    rintro k v (⟨rfl, rfl⟩ | ⟨rfl, rfl⟩ | ⟨rfl, rfl⟩ | ⟨rfl, rfl⟩)
    · rw [up_oth (by decide), up_oth (by decide), f8 10 (by decide), nw_ne (by decide), up_oth (by decide), f7 10 (by decide), nw_ne (by decide), up_oth (by decide), f6 10 (by decide), nw_ne (by decide), up_self]
    · rw [up_oth (by decide), up_oth (by decide), f8 10 (by decide), nw_ne (by decide), up_oth (by decide), f7 10 (by decide), nw_ne (by decide), up_self]
    · rw [up_oth (by decide), up_oth (by decide), f8 10 (by decide), nw_ne (by decide), up_self]
    · rw [up_oth (by decide), up_self]; rfl
  have a8 : FXr 1 17 (up (up ν8 10 3 ((15 : Nat) : Int)) 10 4 1000) := by
    refine FXr.app (b := 10) (a5.keep (fun x x0 x1 => k8 x x1 (by omega))) (FXr.app (b := 10 + 1) (FXr.one (fun k hk => ?_)) (FXr.app (b := 13) (g6.keep (fun x x0 x1 => ?_)) (FXr.app (b := 15) (g7.keep (fun x x0 x1 => ?_)) (g8.keep (fun x x0 x1 => by rw [up_ne (by omega), up_ne (by omega)])))))
    · rw [St_10.2.2] at hk
      have hk' : k = 0 ∨ k = 1 ∨ k = 2 ∨ k = 3 := by simpa [finK, or_assoc] using hk
      unfold FV
      rw [St_10.2.2]
      rcases hk' with rfl | rfl | rfl | rfl
      · exact k10 0 7 (by decide)
      · exact k10 1 11 (by decide)
      · exact k10 2 13 (by decide)
      · exact k10 3 15 (by decide)
    · rw [up_ne (by omega), up_ne (by omega), f8 x (by omega), nw_ne (by omega), up_ne (by omega), f7 x (by omega), nw_ne (by omega), up_ne (by omega)]
    · rw [up_ne (by omega), up_ne (by omega), f8 x (by omega), nw_ne (by omega), up_ne (by omega)]
  have b8 : (up (up ν8 10 3 ((15 : Nat) : Int)) 10 4 1000) 1 1 = 0 ∧ (up (up ν8 10 3 ((15 : Nat) : Int)) 10 4 1000) 7 2 = 0 ∧ (up (up ν8 10 3 ((15 : Nat) : Int)) 10 4 1000) 7 3 = 2 ∧ (up (up ν8 10 3 ((15 : Nat) : Int)) 10 4 1000) 13 2 = 0 := by
    refine ⟨?_, ?_, ?_, ?_⟩
    · rw [k8 1 (by decide) (by decide)]; exact b5
    · rw [k8 7 (by decide) (by decide)]; exact c52
    · rw [k8 7 (by decide) (by decide)]; exact c53
    · rw [up_ne (by decide), up_ne (by decide), f8 13 (by decide), nw_ne (by decide), up_ne (by decide)]; exact c7
  have d8 : (up (up ν8 10 3 ((15 : Nat) : Int)) 10 4 1000) 0 0 = 1 ∧ (up (up ν8 10 3 ((15 : Nat) : Int)) 10 4 1000) 0 1 = 3 ∧ (up (up ν8 10 3 ((15 : Nat) : Int)) 10 4 1000) 0 2 = 7 := by
    rw [k80]
    exact ⟨by rw [up_oth (by decide)]; exact k50.1, by rw [up_oth (by decide)]; exact k50.2, up_self _ _ _ _⟩
  generalize (up (up ν8 10 3 ((15 : Nat) : Int)) 10 4 1000) = ν9 at a8 b8 d8 ⊢
  -- the planner
  have t03 : (nw (up ν9 0 3 ((10 : Nat) : Int)) ((17 : Nat) : Int) (objD 5)) 0 3 = 10 := by rw [nw_ne (by decide), up_self]; rfl
  rw [t03]
  refine m_X5_init hg ⟨by decide, Oc_of St_17 (by decide), ho _ (by decide), ⟨St_18.2.2, by decide, by decide⟩, ho _ (by decide), ⟨by decide, by decide⟩, ?_⟩
  have q17 : (up (nw (up ν9 0 3 ((10 : Nat) : Int)) ((17 : Nat) : Int) (objD 5)) ((17 : Nat) : Int) 0 10) 17 0 = 10 := up_self _ _ _ _
  have q0 : (up (nw (up ν9 0 3 ((10 : Nat) : Int)) ((17 : Nat) : Int) (objD 5)) ((17 : Nat) : Int) 0 10) 0 = (up ν9 0 3 10) 0 := by rw [up_ne (by decide), nw_ne (by decide)]; rfl
  have qx : ∀ x : Int, x < 17 → x ≠ 0 → (up (nw (up ν9 0 3 ((10 : Nat) : Int)) ((17 : Nat) : Int) (objD 5)) ((17 : Nat) : Int) 0 10) x = ν9 x := fun x hx h0 => by rw [up_ne (by omega), nw_ne (by omega), up_ne h0]
  generalize (up (nw (up ν9 0 3 ((10 : Nat) : Int)) ((17 : Nat) : Int) (objD 5)) ((17 : Nat) : Int) 0 10) = ν10 at q17 q0 qx ⊢
  have a10 : FXr 1 18 ν10 := by
    refine FXr.app (b := 17) (a8.keep (fun x x0 x1 => qx x x1 (by omega))) (FXr.one (a := 17) (fun k hk => ?_))
    rw [St_17.2.2] at hk
    have hk' : k = 0 := by simpa [finK] using hk
    subst hk'
    rw [q17]
    unfold FV
    rw [St_17.2.2]
    rfl
  have b10 : ν10 1 1 = 0 ∧ ν10 7 2 = 0 ∧ ν10 7 3 = 2 ∧ ν10 13 2 = 0 := by
    rw [qx 1 (by decide) (by decide), qx 7 (by decide) (by decide), qx 13 (by decide) (by decide)]
    exact b8
  have d10 : ν10 0 0 = 1 ∧ ν10 0 1 = 3 ∧ ν10 0 2 = 7 ∧ ν10 0 3 = 10 := by
    rw [q0]
    exact ⟨by rw [up_oth (by decide)]; exact d8.1, by rw [up_oth (by decide)]; exact d8.2.1, by rw [up_oth (by decide)]; exact d8.2.2, up_self _ _ _ _⟩
  -- the present
  have t18 : (nw (up ν10 0 4 ((17 : Nat) : Int)) ((18 : Nat) : Int) (objD 7)) 0 2 = 7 := by rw [nw_ne (by decide), up_oth (by decide)]; exact d10.2.2.1
  change CV G Y_X7_init [.inr ((18 : Nat) : Int), .inr ((nw (up ν10 0 4 ((17 : Nat) : Int)) ((18 : Nat) : Int) (objD 7)) 0 2)] (18 + 1) (nw (up ν10 0 4 ((17 : Nat) : Int)) ((18 : Nat) : Int) (objD 7)) _
  rw [t18]
  refine I_situation hg (v0 := ((18 : Nat) : Int)) St_18 (by decide) (fun n33 ν11 e33 f11 g11 p2 p3 p4 => ?_)
  have e33' : n33 = 47 := by omega
  subst e33'
  refine ⟨ho _ (by decide), ⟨St_47.2.2, by decide, by decide⟩, ho _ (by decide), ⟨by decide, by decide⟩, ?_⟩
  have k11 : ∀ x : Int, x < 18 → x ≠ 0 → ν11 x = ν10 x := fun x hx h0 => by rw [f11 x hx, nw_ne (by omega), up_ne h0]
  have k110 : ν11 0 = (up ν10 0 4 17) 0 := by rw [f11 0 (by decide), nw_ne (by decide)]; rfl
  have t47 : (nw (up ν11 0 5 ((18 : Nat) : Int)) ((47 : Nat) : Int) (objD 7)) 0 2 = 7 := by rw [nw_ne (by decide), up_oth (by decide), k110, up_oth (by decide)]; exact d10.2.2.1
  rw [t47]
  refine I_situation hg (v0 := ((47 : Nat) : Int)) St_47 (by decide) (fun n39 ν12 e39 f12 g12 _ _ _ => ?_)
  have e39' : n39 = 76 := by omega
  subst e39'
  refine ⟨ho _ (by decide), ⟨St_76.2.2, by decide, by decide⟩, ho _ (by decide), ⟨by decide, by decide⟩, ?_⟩
  have k12 : ∀ x : Int, x < 47 → x ≠ 0 → ν12 x = ν11 x := fun x hx h0 => by rw [f12 x hx, nw_ne (by omega), up_ne h0]
  have k120 : ν12 0 = (up ν11 0 5 18) 0 := by rw [f12 0 (by decide), nw_ne (by decide)]; rfl
  have t76 : (nw (up ν12 0 6 ((47 : Nat) : Int)) ((76 : Nat) : Int) (objD 2)) 0 2 = 7 := by rw [nw_ne (by decide), up_oth (by decide), k120, up_oth (by decide), k110, up_oth (by decide)]; exact d10.2.2.1
  rw [t76]
  refine I_history hg rfl (fun ν13 f13 g13 h2 h3 => ?_)
  refine ⟨ho _ (by decide), ⟨St_339.2.2, by decide, by decide⟩, ho _ (by decide), ⟨by decide, by decide⟩, ?_⟩
  have k13 : ∀ x : Int, x < 76 → x ≠ 0 → ν13 x = ν12 x := fun x hx h0 => by rw [f13 x hx, nw_ne (by omega), up_ne h0]
  have k130 : ν13 0 = (up ν12 0 6 47) 0 := by rw [f13 0 (by decide), nw_ne (by decide)]; rfl
  have z2 : ν13 0 2 = 7 := by rw [k130, up_oth (by decide), k120, up_oth (by decide), k110, up_oth (by decide)]; exact d10.2.2.1
  have t339 : (nw (up ν13 0 7 ((76 : Nat) : Int)) ((339 : Nat) : Int) (objD 7)) 0 2 = 7 := by rw [nw_ne (by decide), up_oth (by decide)]; exact z2
  rw [t339]
  refine I_situation hg (v0 := ((339 : Nat) : Int)) St_339 (by decide) (fun n51 ν14 e51 f14 g14 _ _ _ => ?_)
  have e51' : n51 = 368 := by omega
  subst e51'
  refine ⟨ho _ (by decide), ⟨St_368.2.2, by decide, by decide⟩, ho _ (by decide), ⟨by decide, by decide⟩, ?_⟩
  have k14 : ∀ x : Int, x < 339 → x ≠ 0 → ν14 x = ν13 x := fun x hx h0 => by rw [f14 x hx, nw_ne (by omega), up_ne h0]
  have k140 : ν14 0 = (up ν13 0 7 76) 0 := by rw [f14 0 (by decide), nw_ne (by decide)]; rfl
  have t368 : (nw (up ν14 0 8 ((339 : Nat) : Int)) ((368 : Nat) : Int) (objD 7)) 0 2 = 7 := by rw [nw_ne (by decide), up_oth (by decide), k140, up_oth (by decide)]; exact z2
  rw [t368]
  refine I_situation hg (v0 := ((368 : Nat) : Int)) St_368 (by decide) (fun n57 ν15 e57 f15 g15 _ _ _ => ?_)
  have e57' : n57 = 397 := by omega
  subst e57'
  have T398 : SH ((398 : Nat) : Int) = (20, 18) := by decide +kernel
  refine ⟨ho _ (by decide), ⟨St_397.2.2, by decide, by decide⟩, ⟨by decide, by decide⟩, I_table hg (v0 := ((397 : Nat) : Int)) (N := 18) St_397 (by decide) (by decide) T398 (by decide) (by decide) (fun n62 ν16 e62 f16 g16 c16 => ?_)⟩
  have e62' : n62 = 399 := by omega
  subst e62'
  refine ⟨ho _ (by decide), ho _ (by decide), ⟨by decide, by decide⟩, q _ ?_⟩
  have k15 : ∀ x : Int, x < 368 → x ≠ 0 → ν15 x = ν14 x := fun x hx h0 => by rw [f15 x hx, nw_ne (by omega), up_ne h0]
  have k150 : ν15 0 = (up ν14 0 8 339) 0 := by rw [f15 0 (by decide), nw_ne (by decide)]; rfl
  have k16 : ∀ x : Int, x < 397 → x ≠ 0 → ν16 x = ν15 x := fun x hx h0 => by rw [f16 x hx, nw_ne (by omega), up_ne h0]
  have k160 : ν16 0 = (up ν15 0 9 368) 0 := by rw [f16 0 (by decide), nw_ne (by decide)]; rfl
  have kf : ∀ x : Int, x ≠ 0 → (up (up ν16 0 10 ((397 : Nat) : Int)) 0 11 0) x = ν16 x := fun x h0 => by rw [up_ne h0, up_ne h0]
  have z0 : ∀ k v, k = 0 ∧ v = 1 ∨ k = 1 ∧ v = 3 ∨ k = 2 ∧ v = 7 ∨ k = 3 ∧ v = 10 → ν11 0 k = v := by
    rintro k v (⟨rfl, rfl⟩ | ⟨rfl, rfl⟩ | ⟨rfl, rfl⟩ | ⟨rfl, rfl⟩)
    · rw [k110, up_oth (by decide)]; exact d10.1
    · rw [k110, up_oth (by decide)]; exact d10.2.1
    · rw [k110, up_oth (by decide)]; exact d10.2.2.1
    · rw [k110, up_oth (by decide)]; exact d10.2.2.2
  have lo : ∀ x : Int, x < 18 → x ≠ 0 → (up (up ν16 0 10 ((397 : Nat) : Int)) 0 11 0) x = ν10 x := fun x hx h0 => by rw [kf x h0, k16 x (by omega) h0, k15 x (by omega) h0, k14 x (by omega) h0, k13 x (by omega) h0, k12 x (by omega) h0, k11 x hx h0]
  refine ⟨?_, up_self _ _ _ _, ?_, ⟨?_, ?_⟩, ?_, ⟨?_, ?_, ?_⟩, ⟨?_, ?_⟩, ?_⟩
  · refine FXr.app (b := 0 + 1) (FXr.one (fun k hk => ?_)) (FXr.app (b := 18) (a10.keep (fun x x0 x1 => lo x x1 (by omega))) (FXr.app (b := 47) (g11.keep (fun x x0 x1 => ?_)) (FXr.app (b := 76) (g12.keep (fun x x0 x1 => ?_)) (FXr.app (b := 339) (g13.keep (fun x x0 x1 => ?_)) (FXr.app (b := 368) (g14.keep (fun x x0 x1 => ?_)) (FXr.app (b := 397) (g15.keep (fun x x0 x1 => ?_)) (g16.keep (fun x x0 x1 => kf x (by omega)))))))))
    · rw [St_0.2.2] at hk
      have hk' : 0 ≤ k ∧ k ≤ 10 := by simpa [finK] using hk
      unfold FV
      rw [St_0.2.2]
      have e10 : (up (up ν16 0 10 ((397 : Nat) : Int)) 0 11 0) 0 k = (up ν16 0 10 ((397 : Nat) : Int)) 0 k := up_oth (by omega)
      rw [e10]
      have hc : k = 0 ∨ k = 1 ∨ k = 2 ∨ k = 3 ∨ k = 4 ∨ k = 5 ∨ k = 6 ∨ k = 7 ∨ k = 8 ∨ k = 9 ∨ k = 10 := by omega
      rcases hc with rfl | rfl | rfl | rfl | rfl | rfl | rfl | rfl | rfl | rfl | rfl
      · rw [up_oth (by decide), k160, up_oth (by decide), k150, up_oth (by decide), k140, up_oth (by decide), k130, up_oth (by decide), k120, up_oth (by decide)]; exact z0 0 1 (by decide)
      · rw [up_oth (by decide), k160, up_oth (by decide), k150, up_oth (by decide), k140, up_oth (by decide), k130, up_oth (by decide), k120, up_oth (by decide)]; exact z0 1 3 (by decide)
      · rw [up_oth (by decide), k160, up_oth (by decide), k150, up_oth (by decide), k140, up_oth (by decide), k130, up_oth (by decide), k120, up_oth (by decide)]; exact z0 2 7 (by decide)
      · rw [up_oth (by decide), k160, up_oth (by decide), k150, up_oth (by decide), k140, up_oth (by decide), k130, up_oth (by decide), k120, up_oth (by decide)]; exact z0 3 10 (by decide)
      · rw [up_oth (by decide), k160, up_oth (by decide), k150, up_oth (by decide), k140, up_oth (by decide), k130, up_oth (by decide), k120, up_oth (by decide), k110, up_self]; rfl
      · rw [up_oth (by decide), k160, up_oth (by decide), k150, up_oth (by decide), k140, up_oth (by decide), k130, up_oth (by decide), k120, up_self]; rfl
      · rw [up_oth (by decide), k160, up_oth (by decide), k150, up_oth (by decide), k140, up_oth (by decide), k130, up_self]; rfl
      · rw [up_oth (by decide), k160, up_oth (by decide), k150, up_oth (by decide), k140, up_self]; rfl
      · rw [up_oth (by decide), k160, up_oth (by decide), k150, up_self]; rfl
      · rw [up_oth (by decide), k160, up_self]; rfl
      · rw [up_self]; rfl
    · rw [kf x (by omega), k16 x (by omega) (by omega), k15 x (by omega) (by omega), k14 x (by omega) (by omega), k13 x (by omega) (by omega), k12 x (by omega) (by omega)]
    · rw [kf x (by omega), k16 x (by omega) (by omega), k15 x (by omega) (by omega), k14 x (by omega) (by omega), k13 x (by omega) (by omega)]
    · rw [kf x (by omega), k16 x (by omega) (by omega), k15 x (by omega) (by omega), k14 x (by omega) (by omega)]
    · rw [kf x (by omega), k16 x (by omega) (by omega), k15 x (by omega) (by omega)]
    · rw [kf x (by omega), k16 x (by omega) (by omega)]
  · rw [lo 1 (by decide) (by decide)]; exact b10.1
  · rw [lo 7 (by decide) (by decide)]; exact b10.2.1
  · rw [lo 7 (by decide) (by decide)]; exact b10.2.2.1
  · rw [lo 13 (by decide) (by decide)]; exact b10.2.2.2
  · rw [kf 18 (by decide), k16 18 (by decide) (by decide), k15 18 (by decide) (by decide), k14 18 (by decide) (by decide), k13 18 (by decide) (by decide), k12 18 (by decide) (by decide)]; exact p2
  · rw [kf 18 (by decide), k16 18 (by decide) (by decide), k15 18 (by decide) (by decide), k14 18 (by decide) (by decide), k13 18 (by decide) (by decide), k12 18 (by decide) (by decide)]; exact p3
  · rw [kf 18 (by decide), k16 18 (by decide) (by decide), k15 18 (by decide) (by decide), k14 18 (by decide) (by decide), k13 18 (by decide) (by decide), k12 18 (by decide) (by decide)]; exact p4
  · rw [kf 76 (by decide), k16 76 (by decide) (by decide), k15 76 (by decide) (by decide), k14 76 (by decide) (by decide)]; exact h2
  · rw [kf 76 (by decide), k16 76 (by decide) (by decide), k15 76 (by decide) (by decide), k14 76 (by decide) (by decide)]; exact h3
  · rw [kf 397 (by decide)]; exact c16
end Init2
