-- the law from its entry
theorem k0_cls {s : State} {args : Array Value} (hts : ∀ w ∈ gT, w.before args s = true) : ∃ D : va_G, ∀ (k : Nat) (q : vw_C), vwCl[k]? = some q → u_Kn s q.1 q.2.1 q.2.2 (D.1 k) (D.2 k) := by
  have h : ∀ k : Nat, ∃ (cC : ClassId) (iS : Nat → Nat), ∀ q : vw_C, vwCl[k]? = some q → u_Kn s q.1 q.2.1 q.2.2 cC iS := by
    intro k
    match k with
    | 0 => obtain ⟨c, i, h⟩ := u_known hts cf_0.2.2.2.2 (hts _ ab_0); exact ⟨c, i, fun q hq => by cases hq; exact h⟩
    | 1 => obtain ⟨c, i, h⟩ := u_known hts cf_1.2.2.2.2 (hts _ ab_1); exact ⟨c, i, fun q hq => by cases hq; exact h⟩
    | 2 => obtain ⟨c, i, h⟩ := u_known hts cf_2.2.2.2.2 (hts _ ab_2); exact ⟨c, i, fun q hq => by cases hq; exact h⟩
    | 3 => obtain ⟨c, i, h⟩ := u_known hts cf_3.2.2.2.2 (hts _ ab_3); exact ⟨c, i, fun q hq => by cases hq; exact h⟩
    | 4 => obtain ⟨c, i, h⟩ := u_known hts cf_4.2.2.2.2 (hts _ ab_4); exact ⟨c, i, fun q hq => by cases hq; exact h⟩
    | 5 => obtain ⟨c, i, h⟩ := u_known hts cf_5.2.2.2.2 (hts _ ab_5); exact ⟨c, i, fun q hq => by cases hq; exact h⟩
    | 6 => obtain ⟨c, i, h⟩ := u_known hts cf_6.2.2.2.2 (hts _ ab_6); exact ⟨c, i, fun q hq => by cases hq; exact h⟩
    | 7 => obtain ⟨c, i, h⟩ := u_known hts cf_7.2.2.2.2 (hts _ ab_7); exact ⟨c, i, fun q hq => by cases hq; exact h⟩
    | 8 => obtain ⟨c, i, h⟩ := u_known hts cf_8.2.2.2.2 (hts _ ab_8); exact ⟨c, i, fun q hq => by cases hq; exact h⟩
    | 9 => obtain ⟨c, i, h⟩ := u_known hts cf_9.2.2.2.2 (hts _ ab_9); exact ⟨c, i, fun q hq => by cases hq; exact h⟩
    | 10 => obtain ⟨c, i, h⟩ := u_known hts cf_10.2.2.2.2 (hts _ ab_10); exact ⟨c, i, fun q hq => by cases hq; exact h⟩
    | 11 => obtain ⟨c, i, h⟩ := u_known hts cf_11.2.2.2.2 (hts _ ab_11); exact ⟨c, i, fun q hq => by cases hq; exact h⟩
    | k + 12 => exact ⟨0, fun _ => 0, fun q hq => by simp at hq⟩
  exact ⟨(fun k => Classical.choose (h k), fun k => Classical.choose (Classical.choose_spec (h k))), fun k q hq => Classical.choose_spec (Classical.choose_spec (h k)) q hq⟩
theorem k0_ao {s : State} {A : Array Value} {C : String} (h : (Cond.arrayOver (.object C)).before A s = true) : ∃ c : ClassId, ArrOfT s c (.object C) ∧ va_RA s c (.object C) := by
  obtain ⟨comp, c, k, h1, h2, h3, h4, h5⟩ := Cond.arrayOver_spec h
  exact ⟨c, fun n z => ⟨(fun k h => by cases h), k, h3, comp, h4⟩, k, comp, h3, h4, h1, h5⟩
theorem k0_all {l : Launch} {s : State} {A : Array Value} (hts : ∀ w ∈ lw_tbl, w.before A s = true) : ∃ (D : va_G) (cA : Nat → ClassId), ∀ f, K0 (l, s.heap.size, D, cA, f) s := by
  have ht : ∀ w ∈ gT, w.before A s = true := fun w hw => hts w (List.mem_filter.mp hw).1
  have w1 : (Cond.arrayOver (.object "ContactWays$Bundle")).before A s = true := hts _ (List.mem_of_getElem? (i := 292) (by decide +kernel))
  have w2 : (Cond.arrayOver (.object "ContactWays$Contact")).before A s = true := hts _ (List.mem_of_getElem? (i := 142) (by decide +kernel))
  have w3 : (Cond.arrayOver (.object "ContactWays$Situation")).before A s = true := hts _ (List.mem_of_getElem? (i := 323) (by decide +kernel))
  obtain ⟨D, hD⟩ := k0_cls ht
  obtain ⟨a0, k0, p0, x0, y0, z0⟩ := Cond.arrayClass_spec (ht _ ar_int)
  obtain ⟨a1, k1, p1, x1, y1, z1⟩ := Cond.arrayClass_spec (ht _ ar_boolean)
  obtain ⟨a2, x2, y2⟩ := k0_ao w1
  obtain ⟨a3, x3, y3⟩ := k0_ao w2
  obtain ⟨a4, x4, y4⟩ := k0_ao w3
  refine ⟨D, fun k => if k = 20 then a0 else if k = 21 then a1 else if k = 22 then a2 else if k = 23 then a3 else a4, fun f => ⟨⟨hD, ?_⟩, fun w hw => ?_, va_AO.of w1, va_AO.of w2, va_AO.of w3⟩⟩
  · intro k q hq
    match k, hq with
    | 0, hq => cases hq; exact ⟨fun n z => ⟨(fun k h => by cases h), k0, y0, p0, z0⟩, x0⟩
    | 1, hq => cases hq; exact ⟨fun n z => ⟨(fun k h => by cases h), k1, y1, p1, z1⟩, x1⟩
    | 2, hq => cases hq; exact ⟨x2, y2⟩
    | 3, hq => cases hq; exact ⟨x3, y3⟩
    | 4, hq => cases hq; exact ⟨x4, y4⟩
    | k + 5, hq => simp [tysG] at hq
  · have hn := (List.mem_filter.mp hw).2
    have h := hts w (List.mem_filter.mp hw).1
    cases w <;> first | exact va_Nw.of rfl h | (simp [isNest] at hn)
theorem l_walk {G : GT} {b L : Nat} {xs : Nat → Int32} (hg : gx G = fun _ _ => True) (hL : L ≤ 3072) : Wl G b L xs 0 0 0 (fun _ _ => 0) 0 [] [] := by
  refine l_new cf_10 sm_10 dL_law_0 lc_L_7 ab_10 in_10 St_0.2.2 (by decide) (by decide) (tru hg) ?_
  refine l_dup dL_law_3 ?_
  refine l_N (Yc := Y_X10_init) (a := 0) (st := [.inr 0]) (As := []) (Q := fun n ν => n = 399 ∧ IC ν) rfl dL_law_4 lm_L_9 mc_X10_init mi_X10_init rfl rfl (by decide) (fits_of (by decide) (by decide) (by decide)) (by decide) (I_class hg rfl (fun ν h => ⟨rfl, h⟩)) rfl rfl ?_
  intro n1 ν hq
  obtain ⟨rfl, hC⟩ := hq
  refine l_astore_n (by decide) dL_law_7 rfl (by decide) (by decide) rfl ?_
  refine l_new cf_11 sm_11 dL_law_8 lc_L_10 ab_11 in_11 St_399.2.2 (by decide) (by decide) (tru hg) ?_
  refine l_dup dL_law_11 ?_
  refine l_N (Yc := Y_X11_init) (a := 399) (st := [.inr 399]) (As := []) (Q := fun n ν => n = 415 ∧ FX n ν ∧ INV n ν) rfl dL_law_12 lm_L_12 mc_X11_init mi_X11_init rfl rfl (by decide) (fits_of (by decide) (by decide) (by decide)) (by decide) (I_model (μ0 := ν) hg rfl rfl hC (fun ν h1 h2 => ⟨rfl, h1, h2⟩)) rfl rfl ?_
  intro n2 ν2 hq
  obtain ⟨rfl, hF, hI⟩ := hq
  refine l_astore_n (by decide) dL_law_15 rfl (by decide) (by decide) rfl ?_
  refine l_iconst dL_law_16 ⟨by decide, by decide⟩ ?_
  refine l_istore_n dL_law_17 rfl (by decide) (by decide) rfl ?_
  have w := l_loop (b := b) (xs := xs) hg hL L 0 415 ν2 hF hI (by omega) (by omega)
  rw [show (6 : Int) * ((0 : Nat) : Int) = 0 by decide] at w
  exact l_wide (by decide) (by decide) w
/-- THE LAW, from its entry -/
theorem whole_start {p : Program} {e : Env} {s : State} {m : MethodId} {below : List Frame} {meth : Method} {c : Code} (l : Launch) (hflags : l.flags = flags0) {b L : Nat} {xs : Nat → Int32} (hL : L ≤ 3072) (C0 : lw_At p s m meth c b L xs) : W p l e room_1 s m #[Value.ref b] below meth c s.heap [] 0 0 (lw_Z below #[Value.ref b] s) (entryFrame m ([Value.ref b] : List Value).toArray 4) := by
  obtain ⟨hx, hb, hr, hml, hown, hts, hX, hbl, hlocks, hgv⟩ := id C0
  obtain ⟨D, cA, hK⟩ := k0_all (l := l) hts
  have w := l_walk (G := (l, s.heap.size, D, cA, fun _ _ => True)) (b := b) (L := L) (xs := xs) rfl hL
  have hl := lv_entry ([.ref b]) (n := 4) (Nat.le_of_ble_eq_true rfl)
  rw [lg_entry_eq]
  exact w p e s m #[Value.ref b] below meth c s.heap [] _ ⟨hx, hb, hml, hr, hlocks, fun h => absurd h (by decide), hown, fun w hw => hts w (List.mem_filter.mp hw).1, hK _, Nat.le_refl _, rfl, hX, hbl, rfl⟩ ⟨fun k q h => by simp [world] at h, rfl, fun i j h => absurd h (Nat.not_lt_zero _), trivial⟩ va_S.rf hl (fun q h => by cases h) (fun v h => by cases h)
