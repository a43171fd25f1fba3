-- rows of the judgement Wa over the memory: fields, arrays, what is made
def up (μ : Mem) (a k v : Int) : Mem := fun x => if x = a then (fun j => if j = k then v else μ a j) else μ x
theorem up_ne {μ : Mem} {a k v x : Int} (h : x ≠ a) : up μ a k v x = μ x := if_neg h
theorem up_at (μ : Mem) (a k v : Int) : up μ a k v a = fun j => if j = k then v else μ a j := if_pos rfl
theorem up_self (μ : Mem) (a k v : Int) : up μ a k v a k = v := by rw [up_at]; exact if_pos rfl
theorem up_oth {μ : Mem} {a k v j : Int} (h : j ≠ k) : up μ a k v a j = μ a j := by rw [up_at]; exact if_neg h
/-- a class by its number: its name, fields and types -/
def ClF (ci : Nat) (C : String) (T : u_T) (N : Nat) : Prop :=
  ci < 12 ∧ vwCl[ci]? = some (C, T, N) ∧ (∀ k, k < N → parseFieldDescriptor (T k).2.2.1 = some (tyC ci k)) ∧ (∀ a, a < N → ∀ b, b < N → a ≠ b → (T a).2.1 ≠ (T b).2.1) ∧ ∀ w ∈ u_ws C T N, w ∈ gT
theorem ent_obj {cA : Nat → ClassId} {b0 i ci N : Nat} {μ : Mem} (h : SH (i : Int) = (ci, N)) (hc : ci < 12) : ent cA b0 μ i = .inr (ci, (List.range N).map (fun j => cv b0 (av (tyC ci j) (μ i j)))) := by
  unfold ent
  rw [h]
  rw [if_pos hc]
theorem ent_num {cA : Nat → ClassId} {b0 i k N : Nat} {μ : Mem} (h : SH (i : Int) = (k, N)) (h1 : 12 ≤ k) (h2 : k < 22) : ent cA b0 μ i = .inl (cA k, N, .inl (fun j => I (μ i j))) := by
  unfold ent
  rw [h]
  rw [if_neg (by simpa using h1), if_pos h2]
theorem ent_ref {cA : Nat → ClassId} {b0 i k N : Nat} {μ : Mem} (h : SH (i : Int) = (k, N)) (h2 : 22 ≤ k) : ent cA b0 μ i = .inl (cA k, N, .inr (.inr (.inr (.inr (fun j => if μ i j < 0 then none else some (b0 + (μ i j).toNat)))))) := by
  unfold ent
  rw [h]
  rw [if_neg (by show ¬ k < 12; omega), if_neg (by simpa using h2)]
theorem ent_up_ne {cA : Nat → ClassId} {b0 i j : Nat} {μ : Mem} {k v : Int} (h : j ≠ i) : ent cA b0 (up μ i k v) j = ent cA b0 μ j := by
  unfold ent
  rw [up_ne (by omega)]
theorem range_map_set {α : Type} (N k : Nat) (f : Nat → α) (v : α) : ((List.range N).map f).set k v = (List.range N).map (fun j => if j = k then v else f j) := by
  apply List.ext_getElem?
  intro j
  by_cases hj : j < N
  · by_cases hk : k = j
    · subst hk
      rw [List.getElem?_set_self (by simpa using hj)]
      simp [hj]
    · rw [List.getElem?_set_ne hk]
      simp [hj, Ne.symm hk]
  · rw [List.getElem?_eq_none (by simpa using Nat.le_of_not_lt hj), List.getElem?_eq_none (by simpa using Nat.le_of_not_lt hj)]
theorem ent_up_obj {cA : Nat → ClassId} {b0 i ci N k : Nat} {μ : Mem} {v : Int} (h : SH (i : Int) = (ci, N)) (hc : ci < 12) :
    ent cA b0 (up μ i k v) i = .inr (ci, ((List.range N).map (fun j => cv b0 (av (tyC ci j) (μ i j)))).set k (cv b0 (av (tyC ci k) v))) := by
  rw [ent_obj h hc, range_map_set]
  congr 2
  apply List.map_congr_left
  intro j _
  by_cases hj : j = k
  · subst hj
    rw [up_self, if_pos rfl]
  · rw [up_oth (by omega), if_neg hj]
theorem ent_up_num {cA : Nat → ClassId} {b0 i k N j : Nat} {μ : Mem} {v : Int} (h : SH (i : Int) = (k, N)) (h1 : 12 ≤ k) (h2 : k < 22) :
    ent cA b0 (up μ i j v) i = .inl (cA k, N, .inl (upd (fun j => I (μ i j)) j (I v))) := by
  rw [ent_num h h1 h2]
  congr 4
  funext q
  unfold upd
  by_cases hq : q = j
  · subst hq
    rw [up_self, if_pos rfl]
  · rw [up_oth (by omega), if_neg hq]
theorem ent_up_ref {cA : Nat → ClassId} {b0 i k N j : Nat} {μ : Mem} {v : Int} (h : SH (i : Int) = (k, N)) (h2 : 22 ≤ k) :
    ent cA b0 (up μ i j v) i = .inl (cA k, N, .inr (.inr (.inr (.inr (va_up (fun j => if μ i j < 0 then none else some (b0 + (μ i j).toNat)) j (if v < 0 then none else some (b0 + v.toNat))))))) := by
  rw [ent_ref h h2]
  congr 7
  funext q
  unfold va_up
  by_cases hq : q = j
  · subst hq
    rw [up_self, if_pos rfl]
  · rw [up_oth (by omega), if_neg hq]
/-- one cell has changed -/
theorem AH_up {G : GT} {n i k : Nat} {μ : Mem} {v : Int} {H H1 : Heap} (hA : AH G n μ H) (hi : i < n) (hat : va_at (gD G) vwCl (gb G + i, ent (gA G) (gb G) (up μ i k v) i) H1) (hz : H1.size = H.size) (oq : ∀ q : Nat, q ≠ gb G + i → H1[q]? = H[q]?)
    (hv : k < (SH (i : Int)).2 → okT (ety (SH (i : Int)).1 k) v) (hx : gx G n (up μ i k v)) : AH G n (up μ i k v) H1 := by
  obtain ⟨h1, h2, h3, h4⟩ := hA
  refine ⟨?_, by rw [hz]; exact h2, ?_, hx⟩
  · have := va_P.set h1 (world_D _ _ _ _) (world_at hi) hat oq
    rwa [world_set rfl (fun j hj => ent_up_ne hj)] at this
  · intro i' j hi' hj
    by_cases e : i' = i
    · subst e
      by_cases ej : j = k
      · subst ej
        rw [up_self]
        exact hv hj
      · rw [up_oth (by omega)]
        exact h3 i' j hi' hj
    · rw [up_ne (by omega)]
      exact h3 i' j hi' hj
section RowsC
variable {G : GT} {Y : MD} {Z : ZT} {c0 s0 n pc : Nat} {μ : Mem} {L : List (Nat × AV)} {st : List AV}
theorem a_toNat {a : Int} (h : 0 ≤ a) : ((a.toNat : Nat) : Int) = a := by omega
theorem a_getf {ci k N idx : Nat} {C : String} {T : u_T} {a : Int} (F : ClF ci C T N) (hd : decode Y.2.1 pc = .ok (.getfield idx, 3)) (hk : k < N) (hT : (T k).1 = C) (hl : Cond.fieldLink Y.1.cls idx C (T k).2.1 (T k).2.2.1 ∈ gT)
    (ho : gx G n μ → 0 ≤ a ∧ a < n ∧ SH a = (ci, N)) (w : okT (tyC ci k) (μ a k) → Wa G Y Z c0 s0 n μ (pc + 3) L (av (tyC ci k) (μ a k) :: st)) : Wa G Y Z c0 s0 n μ pc L (.inr a :: st) := by
  intro p e s m args below meth c H locs ls C0 hA hS hl' oL oS
  obtain ⟨h0, h1, h2⟩ := ho hA.2.2.2
  have en := a_toNat h0
  have hi : a.toNat < n := by omega
  have hsh : SH (a.toNat : Int) = (ci, N) := by rw [en]; exact h2
  have hok := hA.2.2.1 a.toNat k hi (by rw [hsh]; exact hk)
  rw [hsh, en] at hok
  have hok' : okT (tyC ci k) (μ a k) := by
    have : ety ci k = tyC ci k := if_pos F.1
    rw [this] at hok
    exact hok
  have w := w hok' p e s m args below meth c H locs ls C0 hA hS hl' oL (okS_cons (okT_av hok') (okS_tl oS))
  obtain ⟨C1, C2, C3, C4, C5, C6, C7, C8, C9⟩ := C0
  have he := world_at (cA := gA G) (b0 := gb G) (μ := μ) hi
  rw [ent_obj hsh F.1] at he
  rw [List.map_cons, cv_ref h0]
  refine va_get C1 C2 C8 F.2.2.2.2 C7 C9.1.1 hA.1 a.toNat he F.2.1 k hk (C8 _ hl) (fun x hx => by rw [hT] at hx; exact hx) (v := cv (gb G) (av (tyC ci k) (μ a k))) ?_ hd w
  rw [List.getElem?_map, List.getElem?_range hk]
  simp only [Option.map_some]
  rw [en]
theorem a_getfN {ci k N idx : Nat} {C host : String} {T : u_T} {a : Int} (F : ClF ci C T N) (hd : decode Y.2.1 pc = .ok (.getfield idx, 3)) (hk : k < N) (hT : (T k).1 = C) (hl : Cond.fieldLinkNest Y.1.cls idx C (T k).2.1 (T k).2.2.1 host ∈ gN)
    (ho : gx G n μ → 0 ≤ a ∧ a < n ∧ SH a = (ci, N)) (w : okT (tyC ci k) (μ a k) → Wa G Y Z c0 s0 n μ (pc + 3) L (av (tyC ci k) (μ a k) :: st)) : Wa G Y Z c0 s0 n μ pc L (.inr a :: st) := by
  intro p e s m args below meth c H locs ls C0 hA hS hl' oL oS
  obtain ⟨h0, h1, h2⟩ := ho hA.2.2.2
  have en := a_toNat h0
  have hi : a.toNat < n := by omega
  have hsh : SH (a.toNat : Int) = (ci, N) := by rw [en]; exact h2
  have hok := hA.2.2.1 a.toNat k hi (by rw [hsh]; exact hk)
  rw [hsh, en] at hok
  have hok' : okT (tyC ci k) (μ a k) := by
    have : ety ci k = tyC ci k := if_pos F.1
    rw [this] at hok
    exact hok
  have w := w hok' p e s m args below meth c H locs ls C0 hA hS hl' oL (okS_cons (okT_av hok') (okS_tl oS))
  obtain ⟨C1, C2, C3, C4, C5, C6, C7, C8, C9⟩ := C0
  have he := world_at (cA := gA G) (b0 := gb G) (μ := μ) hi
  rw [ent_obj hsh F.1] at he
  rw [List.map_cons, cv_ref h0]
  refine va_getN C1 C2 C8 F.2.2.2.2 C7 C9.1.1 hA.1 a.toNat he F.2.1 k hk (va_Nw.use rfl (C9.1.2.1 _ hl)) (fun x hx => by rw [hT] at hx; exact hx) (v := cv (gb G) (av (tyC ci k) (μ a k))) ?_ hd w
  rw [List.getElem?_map, List.getElem?_range hk]
  simp only [Option.map_some]
  rw [en]
theorem av_narrow {t : FieldType} {v : Int} {b0 : Nat} (hs : t ≠ .byte ∧ t ≠ .char ∧ t ≠ .short ∧ t ≠ .long ∧ t ≠ .float ∧ t ≠ .double) (h : okT t v) : narrow t (cv b0 (av t v)) = cv b0 (av t v) ∧ fits t (cv b0 (av t v)) = true := by
  obtain ⟨h1, h2, h3, h4, h5, h6⟩ := hs
  cases t with
  | int => exact ⟨rfl, rfl⟩
  | boolean => rcases h with rfl | rfl <;> exact ⟨rfl, rfl⟩
  | object _ =>
    show narrow _ (cv b0 (.inr v)) = cv b0 (.inr v) ∧ fits _ (cv b0 (.inr v)) = true
    by_cases hv : v < 0
    · rw [cv_null hv]; exact ⟨rfl, rfl⟩
    · rw [cv_ref (by omega)]; exact ⟨rfl, rfl⟩
  | array _ =>
    show narrow _ (cv b0 (.inr v)) = cv b0 (.inr v) ∧ fits _ (cv b0 (.inr v)) = true
    by_cases hv : v < 0
    · rw [cv_null hv]; exact ⟨rfl, rfl⟩
    · rw [cv_ref (by omega)]; exact ⟨rfl, rfl⟩
  | byte => exact absurd rfl h1
  | char => exact absurd rfl h2
  | short => exact absurd rfl h3
  | long => exact absurd rfl h4
  | float => exact absurd rfl h5
  | double => exact absurd rfl h6
def smallT (t : FieldType) : Prop := t ≠ .byte ∧ t ≠ .char ∧ t ≠ .short ∧ t ≠ .long ∧ t ≠ .float ∧ t ≠ .double
/-- the cell of an object behind a store -/
theorem obj_set {D : va_G} {cA : Nat → ClassId} {b0 i ci N k : Nat} {C : String} {T : u_T} {μ : Mem} {v : Int} {H1 : Heap} {cell : Cell} (hc : vwCl[ci]? = some (C, T, N)) (hci : ci < 12) (hsh : SH (i : Int) = (ci, N)) (hk : k < N)
    (e1 : H1[b0 + i]? = some (cell.setSlot (D.2 ci k) (cv b0 (av (tyC ci k) v)))) (q2 : cell.cls = D.1 ci) (q3 : cell.vm = .none)
    (q4 : ∀ j, j < N → cell.slots[D.2 ci j]? = some (vp_V ((List.range N).map (fun j => cv b0 (av (tyC ci j) (μ i j)))) j)) (hap : ∀ x y, x < N → y < N → x ≠ y → D.2 ci x ≠ D.2 ci y) : va_at D vwCl (b0 + i, ent cA b0 (up μ i k v) i) H1 := by
  rw [ent_up_obj hsh hci]
  refine ⟨_, hc, t_OB.to (V := updV (vp_V ((List.range N).map (fun j => cv b0 (av (tyC ci j) (μ i j))))) k (cv b0 (av (tyC ci k) v))) ⟨_, e1, q2, q3, t_set q4 hap hk _⟩ (fun j _ => vp_updV_set (by simpa using hk) _ j)⟩
theorem a_putf {ci k N idx : Nat} {C : String} {T : u_T} {a : Int} {v : Int} (F : ClF ci C T N) (hd : decode Y.2.1 pc = .ok (.putfield idx, 3)) (hk : k < N) (hT : (T k).1 = C) (hfin : (T k).2.2.2 = false) (hty : smallT (tyC ci k)) (hl : Cond.fieldLink Y.1.cls idx C (T k).2.1 (T k).2.2.1 ∈ gT)
    (ho : gx G n μ → 0 ≤ a ∧ a < n ∧ SH a = (ci, N)) (hv : okV (av (tyC ci k) v) → okT (tyC ci k) v) (hx : gx G n μ → gx G n (up μ a k v)) (w : Wa G Y Z c0 s0 n (up μ a k v) (pc + 3) L st) : Wa G Y Z c0 s0 n μ pc L (av (tyC ci k) v :: .inr a :: st) := by
  intro p e s m args below meth c H locs ls C0 hA hS hl' oL oS
  obtain ⟨h0, h1, h2⟩ := ho hA.2.2.2
  have hv := hv (okS_hd oS)
  have en := a_toNat h0
  have hi : a.toNat < n := by omega
  have hsh : SH (a.toNat : Int) = (ci, N) := by rw [en]; exact h2
  obtain ⟨C1, C2, C3, C4, C5, C6, C7, C8, C9⟩ := id C0
  have he := world_at (cA := gA G) (b0 := gb G) (μ := μ) hi
  rw [ent_obj hsh F.1] at he
  have hap := va_apart (own := Y.1.cls) C8 F.2.2.2.2 (tyC ci) F.2.2.1 F.2.2.2.1 C9.1.1 F.2.1
  obtain ⟨r, g1, cell, q1, q2, q3, q4⟩ := hA.1 a.toNat _ he
  have hr : r = (C, T, N) := Option.some.inj (g1.symm.trans F.2.1)
  subst hr
  obtain ⟨hSl, hfc, kC, hkC, hkind⟩ := C9.1.1.1 ci _ F.2.1
  obtain ⟨cf, kf, fi, f, hif, hsl⟩ := hSl k hk
  have hlay := C8 _ (F.2.2.2.2 _ (u_in_lay hk))
  unfold u_lay at hlay
  rw [if_neg (by rw [hfin]; decide)] at hlay
  have hst := (u_facts hfc hkC (u_lays C8 F.2.2.2.2 hk) hif).1
  have hn := av_narrow (b0 := gb G) hty hv
  have h6 := u_store hfc hkC hkind hlay hif (F.2.2.1 k hk) hn.1 hn.2
  have hif' : s.fieldFound? C (T k).2.1 (T k).2.2.1 = some (cf, kf, fi, f) := by rw [← hT]; exact hif
  have hlk := C8 _ hl
  rw [List.map_cons, List.map_cons, cv_ref h0]
  refine W.putK C1 C2 (f := f) (ref := C) ⟨C7, hlk, ⟨_, _, _, hif'⟩, hst⟩ (by rw [q2]; exact h6) q1 q3 (by rw [hsl]; exact k2_hasslot (q4 k hk)) rfl rfl hd fun H' e1 e2 e3 => ?_
  have hA' : AH G n (up μ a k v) H' := by
    rw [← en]
    refine AH_up hA hi (obj_set F.2.1 F.1 hsh hk (cell := cell) (by rw [← hsl]; exact e1) q2 q3 q4 hap) e2 e3 (fun _ => ?_) (by rw [en]; exact hx hA.2.2.2)
    have : ety ci k = tyC ci k := if_pos F.1
    rw [hsh, this]
    exact hv
  exact w p e s m args below meth c H' _ ls C0 hA' (hS.put e2 e3 (Nat.le_add_right _ _)) hl' oL (okS_tl (okS_tl oS))
theorem a_putfN {ci k N idx : Nat} {C host : String} {T : u_T} {a : Int} {v : Int} (F : ClF ci C T N) (hd : decode Y.2.1 pc = .ok (.putfield idx, 3)) (hk : k < N) (hT : (T k).1 = C) (hfin : (T k).2.2.2 = false) (hty : smallT (tyC ci k)) (hl : Cond.fieldLinkNest Y.1.cls idx C (T k).2.1 (T k).2.2.1 host ∈ gN)
    (ho : gx G n μ → 0 ≤ a ∧ a < n ∧ SH a = (ci, N)) (hv : okV (av (tyC ci k) v) → okT (tyC ci k) v) (hx : gx G n μ → gx G n (up μ a k v)) (w : Wa G Y Z c0 s0 n (up μ a k v) (pc + 3) L st) : Wa G Y Z c0 s0 n μ pc L (av (tyC ci k) v :: .inr a :: st) := by
  intro p e s m args below meth c H locs ls C0 hA hS hl' oL oS
  obtain ⟨h0, h1, h2⟩ := ho hA.2.2.2
  have hv := hv (okS_hd oS)
  have en := a_toNat h0
  have hi : a.toNat < n := by omega
  have hsh : SH (a.toNat : Int) = (ci, N) := by rw [en]; exact h2
  obtain ⟨C1, C2, C3, C4, C5, C6, C7, C8, C9⟩ := id C0
  have he := world_at (cA := gA G) (b0 := gb G) (μ := μ) hi
  rw [ent_obj hsh F.1] at he
  have hap := va_apart (own := Y.1.cls) C8 F.2.2.2.2 (tyC ci) F.2.2.1 F.2.2.2.1 C9.1.1 F.2.1
  obtain ⟨r, g1, cell, q1, q2, q3, q4⟩ := hA.1 a.toNat _ he
  have hr : r = (C, T, N) := Option.some.inj (g1.symm.trans F.2.1)
  subst hr
  obtain ⟨hSl, hfc, kC, hkC, hkind⟩ := C9.1.1.1 ci _ F.2.1
  obtain ⟨cf, kf, fi, f, hif, hsl⟩ := hSl k hk
  have hlay := C8 _ (F.2.2.2.2 _ (u_in_lay hk))
  unfold u_lay at hlay
  rw [if_neg (by rw [hfin]; decide)] at hlay
  have hst := (u_facts hfc hkC (u_lays C8 F.2.2.2.2 hk) hif).1
  have hn := av_narrow (b0 := gb G) hty hv
  have h6 := u_store hfc hkC hkind hlay hif (F.2.2.1 k hk) hn.1 hn.2
  have hif' : s.fieldFound? C (T k).2.1 (T k).2.2.1 = some (cf, kf, fi, f) := by rw [← hT]; exact hif
  have hlk : (Cond.fieldLinkNest Y.1.cls idx C (T k).2.1 (T k).2.2.1 host).before args s = true := va_Nw.use rfl (C9.1.2.1 _ hl)
  rw [List.map_cons, List.map_cons, cv_ref h0]
  refine va_WputK C1 C2 (f := f) (ref := C) C7 hlk hif' hst (by rw [q2]; exact h6) q1 q3 (by rw [hsl]; exact k2_hasslot (q4 k hk)) rfl rfl hd fun H' e1 e2 e3 => ?_
  have hA' : AH G n (up μ a k v) H' := by
    rw [← en]
    refine AH_up hA hi (obj_set F.2.1 F.1 hsh hk (cell := cell) (by rw [← hsl]; exact e1) q2 q3 q4 hap) e2 e3 (fun _ => ?_) (by rw [en]; exact hx hA.2.2.2)
    have : ety ci k = tyC ci k := if_pos F.1
    rw [hsh, this]
    exact hv
  exact w p e s m args below meth c H' _ ls C0 hA' (hS.put e2 e3 (Nat.le_add_right _ _)) hl' oL (okS_tl (okS_tl oS))
/-- a final field, in the constructor -/
theorem a_putF {ci k N idx : Nat} {C : String} {T : u_T} {a : Int} {v : Int} (F : ClF ci C T N) (hd : decode Y.2.1 pc = .ok (.putfield idx, 3)) (hk : k < N) (hT : (T k).1 = C) (hC : C = Y.1.cls) (hini : Y.1.name = "<init>") (hfin : (T k).2.2.2 = true) (hty : smallT (tyC ci k)) (hl : Cond.fieldLink Y.1.cls idx C (T k).2.1 (T k).2.2.1 ∈ gT)
    (ho : gx G n μ → 0 ≤ a ∧ a < n ∧ SH a = (ci, N)) (hv : okV (av (tyC ci k) v) → okT (tyC ci k) v) (hx : gx G n μ → gx G n (up μ a k v)) (w : Wa G Y Z c0 s0 n (up μ a k v) (pc + 3) L st) : Wa G Y Z c0 s0 n μ pc L (av (tyC ci k) v :: .inr a :: st) := by
  intro p e s m args below meth c H locs ls C0 hA hS hl' oL oS
  obtain ⟨h0, h1, h2⟩ := ho hA.2.2.2
  have hv := hv (okS_hd oS)
  have en := a_toNat h0
  have hi : a.toNat < n := by omega
  have hsh : SH (a.toNat : Int) = (ci, N) := by rw [en]; exact h2
  obtain ⟨C1, C2, C3, C4, C5, C6, C7, C8, C9⟩ := id C0
  have he := world_at (cA := gA G) (b0 := gb G) (μ := μ) hi
  rw [ent_obj hsh F.1] at he
  have hap := va_apart (own := Y.1.cls) C8 F.2.2.2.2 (tyC ci) F.2.2.1 F.2.2.2.1 C9.1.1 F.2.1
  obtain ⟨r, g1, cell, q1, q2, q3, q4⟩ := hA.1 a.toNat _ he
  have hr : r = (C, T, N) := Option.some.inj (g1.symm.trans F.2.1)
  subst hr
  obtain ⟨hSl, hfc, kC, hkC, hkind⟩ := C9.1.1.1 ci _ F.2.1
  obtain ⟨cf, kf, fi, f, hif, hsl⟩ := hSl k hk
  have hlay := C8 _ (F.2.2.2.2 _ (u_in_lay hk))
  unfold u_lay at hlay
  rw [if_pos hfin] at hlay
  have hst := (u_facts hfc hkC (u_lays C8 F.2.2.2.2 hk) hif).1
  have hcf : m.cls = cf := by
    obtain ⟨_, _, c', _, _, _, -, -, hf', -, -, -, hown2, -⟩ := Cond.laysFinal_spec hlay
    have e1 : c' = cf := by have := hif.symm.trans hf'; simp at this; exact this.1.symm
    rw [hT, hC] at hown2
    rw [← e1]; exact Option.some.inj (C7.symm.trans hown2)
  have hn := av_narrow (b0 := gb G) hty hv
  have h6 := u_fits hfc hkC hkind (Or.inr hlay) hif (F.2.2.1 k hk) hn.1 hn.2
  have hif' : s.fieldFound? C (T k).2.1 (T k).2.2.1 = some (cf, kf, fi, f) := by rw [← hT]; exact hif
  have hlk := C8 _ hl
  rw [List.map_cons, List.map_cons, cv_ref h0]
  refine W.putFinK C1 C2 (ref := C) C7 hlk hif' hst hcf (C6 hini) (by rw [q2]; exact h6) q1 q3 (by rw [hsl]; exact k2_hasslot (q4 k hk)) rfl rfl hd fun H' e1 e2 e3 => ?_
  have hA' : AH G n (up μ a k v) H' := by
    rw [← en]
    refine AH_up hA hi (obj_set F.2.1 F.1 hsh hk (cell := cell) (by rw [← hsl]; exact e1) q2 q3 q4 hap) e2 e3 (fun _ => ?_) (by rw [en]; exact hx hA.2.2.2)
    have : ety ci k = tyC ci k := if_pos F.1
    rw [hsh, this]
    exact hv
  exact w p e s m args below meth c H' _ ls C0 hA' (hS.put e2 e3 (Nat.le_add_right _ _)) hl' oL (okS_tl (okS_tl oS))
end RowsC
