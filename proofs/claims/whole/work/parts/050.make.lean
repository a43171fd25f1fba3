-- rows of the judgement Wa: arrays, making, the library's own, ends, entries
/-- a new cell at the end -/
def nw (μ : Mem) (a : Int) (d : Int → Int) : Mem := fun x => if x = a then d else μ x
theorem nw_ne {μ : Mem} {a x : Int} {d : Int → Int} (h : x ≠ a) : nw μ a d x = μ x := if_neg h
theorem nw_at (μ : Mem) (a : Int) (d : Int → Int) : nw μ a d a = d := if_pos rfl
theorem ent_nw_ne {cA : Nat → ClassId} {b0 i j : Nat} {μ : Mem} {d : Int → Int} (h : j ≠ i) : ent cA b0 (nw μ i d) j = ent cA b0 μ j := by
  unfold ent
  rw [nw_ne (by omega)]
theorem world_nw {cA : Nat → ClassId} {b0 n : Nat} {μ : Mem} {d : Int → Int} : world cA b0 (n + 1) (nw μ n d) = world cA b0 n μ ++ [(b0 + n, ent cA b0 (nw μ n d) n)] := by
  unfold world
  rw [List.range_succ, List.map_append]
  congr 1
  apply List.map_congr_left
  intro j hj
  have hj := List.mem_range.mp hj
  rw [ent_nw_ne (by omega)]
theorem AH_nw {G : GT} {n : Nat} {μ : Mem} {d : Int → Int} {H H1 : Heap} (hA : AH G n μ H) (hat : va_at (gD G) vwCl (gb G + n, ent (gA G) (gb G) (nw μ n d) n) H1) (hz : H1.size = H.size + 1) (oq : ∀ q : Nat, q < H.size → H1[q]? = H[q]?)
    (hv : ∀ j : Nat, j < (SH (n : Int)).2 → okT (ety (SH (n : Int)).1 j) (d j)) (hx : gx G (n + 1) (nw μ n d)) : AH G (n + 1) (nw μ n d) H1 := by
  obtain ⟨h1, h2, h3, h4⟩ := hA
  refine ⟨?_, by rw [hz, h2]; omega, ?_, hx⟩
  · rw [world_nw]
    refine (h1.kept (fun k q hq => oq q.1 ((h1 k q hq).lt))).app (fun k q hk => ?_)
    have hz : k < 1 := (List.getElem?_eq_some_iff.mp hk).1
    rw [show k = 0 by omega] at hk
    cases hk
    exact hat
  · intro i j hi hj
    by_cases e : i = n
    · subst e
      rw [nw_at]
      exact hv j hj
    · rw [nw_ne (by omega)]
      exact h3 i j (by omega) hj
def zeroD : Int → Int := fun _ => 0
def nullD : Int → Int := fun _ => -1
def objD (ci : Nat) : Int → Int := fun j => if isRefT (tyC ci j.toNat) = true then -1 else 0
section RowsD
variable {G : GT} {Y : MD} {Z : ZT} {c0 s0 n pc : Nat} {μ : Mem} {L : List (Nat × AV)} {st : List AV}
theorem a_iaload {N : Nat} {a i : Int} (hd : decode Y.2.1 pc = .ok (.iaload, 1)) (ho : gx G n μ → 0 ≤ a ∧ a < n ∧ SH a = (20, N)) (i0 : 0 ≤ i) (i1 : i < N) (w : Wa G Y Z c0 s0 n μ (pc + 1) L (.inl (μ a i) :: st)) : Wa G Y Z c0 s0 n μ pc L (.inl i :: .inr a :: st) := by
  intro p e s m args below meth c H locs ls C0 hA hS hl oL oS
  obtain ⟨h0, h1, h2⟩ := ho hA.2.2.2
  have en := a_toNat h0
  have ei := a_toNat i0
  have hi : a.toNat < n := by omega
  have hsh : SH (a.toNat : Int) = (20, N) := by rw [en]; exact h2
  have hri : inR i := okS_hd oS
  have hok := hA.2.2.1 a.toNat i.toNat hi (by rw [hsh]; show i.toNat < N; omega)
  rw [hsh, en, ei] at hok
  have w := w p e s m args below meth c H locs ls C0 hA hS hl oL (okS_cons hok (okS_tl (okS_tl oS)))
  have he := world_at (cA := gA G) (b0 := gb G) (μ := μ) hi
  rw [ent_num hsh (by decide) (by decide)] at he
  rw [List.map_cons, List.map_cons, cv_ref h0]
  refine va_iald C0.1 C0.2.1 C0.2.2.2.2.2.2.2.2.1.1 hA.1 a.toNat 0 he rfl (I_in hri i0 i1) hd ?_
  rw [I_clamp hri, en, ei]
  exact w
theorem a_zaload {N : Nat} {a i : Int} (hd : decode Y.2.1 pc = .ok (.baload, 1)) (ho : gx G n μ → 0 ≤ a ∧ a < n ∧ SH a = (21, N)) (i0 : 0 ≤ i) (i1 : i < N) (w : (μ a i = 0 ∨ μ a i = 1) → Wa G Y Z c0 s0 n μ (pc + 1) L (.inl (μ a i) :: st)) : Wa G Y Z c0 s0 n μ pc L (.inl i :: .inr a :: st) := by
  intro p e s m args below meth c H locs ls C0 hA hS hl oL oS
  obtain ⟨h0, h1, h2⟩ := ho hA.2.2.2
  have en := a_toNat h0
  have ei := a_toNat i0
  have hi : a.toNat < n := by omega
  have hsh : SH (a.toNat : Int) = (21, N) := by rw [en]; exact h2
  have hri : inR i := okS_hd oS
  have hok := hA.2.2.1 a.toNat i.toNat hi (by rw [hsh]; show i.toNat < N; omega)
  rw [hsh, en, ei] at hok
  have hok : μ a i = 0 ∨ μ a i = 1 := hok
  have w := w hok p e s m args below meth c H locs ls C0 hA hS hl oL (okS_cons (by show inR _; rcases hok with h | h <;> rw [h] <;> exact ⟨by decide, by decide⟩) (okS_tl (okS_tl oS)))
  have he := world_at (cA := gA G) (b0 := gb G) (μ := μ) hi
  rw [ent_num hsh (by decide) (by decide)] at he
  rw [List.map_cons, List.map_cons, cv_ref h0]
  refine va_zald C0.1 C0.2.1 C0.2.2.2.2.2.2.2.2.1.1 hA.1 a.toNat 1 he rfl (I_in hri i0 i1) hd ?_
  rw [I_clamp hri, en, ei]
  exact w
theorem rf_cv (b0 : Nat) (v : Int) : va_rf (if v < 0 then none else some (b0 + v.toNat)) = cv b0 (.inr v) := by
  show _ = (if v < 0 then Value.null else Value.ref (b0 + v.toNat))
  split <;> rfl
theorem a_aaload {N kd t0 : Nat} {C : String} {a i : Int} (hd : decode Y.2.1 pc = .ok (.aaload, 1)) (hk : 22 ≤ kd) (ht : (tysG (gA G))[t0]? = some (gA G kd, .object C)) (ho : gx G n μ → 0 ≤ a ∧ a < n ∧ SH a = (kd, N)) (i0 : 0 ≤ i) (i1 : i < N) (w : Wa G Y Z c0 s0 n μ (pc + 1) L (.inr (μ a i) :: st)) : Wa G Y Z c0 s0 n μ pc L (.inl i :: .inr a :: st) := by
  intro p e s m args below meth c H locs ls C0 hA hS hl oL oS
  obtain ⟨h0, h1, h2⟩ := ho hA.2.2.2
  have en := a_toNat h0
  have ei := a_toNat i0
  have hi : a.toNat < n := by omega
  have hsh : SH (a.toNat : Int) = (kd, N) := by rw [en]; exact h2
  have hri : inR i := okS_hd oS
  have w := w p e s m args below meth c H locs ls C0 hA hS hl oL (okS_cons trivial (okS_tl (okS_tl oS)))
  have he := world_at (cA := gA G) (b0 := gb G) (μ := μ) hi
  rw [ent_ref hsh hk] at he
  rw [List.map_cons, List.map_cons, cv_ref h0]
  refine va_aldq C0.1 C0.2.1 C0.2.2.2.2.2.2.2.2.1.1 hA.1 a.toNat t0 he ht (I_in hri i0 i1) hd ?_
  rw [I_clamp hri, en, ei, rf_cv]
  exact w
theorem a_alen {N kd t0 : Nat} {ty : FieldType} {a : Int} (hd : decode Y.2.1 pc = .ok (.arraylength, 1)) (hk : 12 ≤ kd) (hN : N < 2147483648) (ht : (tysG (gA G))[t0]? = some (gA G kd, ty)) (ho : gx G n μ → 0 ≤ a ∧ a < n ∧ SH a = (kd, N)) (w : Wa G Y Z c0 s0 n μ (pc + 1) L (.inl N :: st)) : Wa G Y Z c0 s0 n μ pc L (.inr a :: st) := by
  intro p e s m args below meth c H locs ls C0 hA hS hl oL oS
  obtain ⟨h0, h1, h2⟩ := ho hA.2.2.2
  have en := a_toNat h0
  have hi : a.toNat < n := by omega
  have hsh : SH (a.toNat : Int) = (kd, N) := by rw [en]; exact h2
  have w := w p e s m args below meth c H locs ls C0 hA hS hl oL (okS_cons (show inR (N : Int) from ⟨by omega, by omega⟩) (okS_tl oS))
  have he := world_at (cA := gA G) (b0 := gb G) (μ := μ) hi
  rw [List.map_cons, cv_ref h0]
  by_cases h22 : kd < 22
  · rw [ent_num hsh hk h22] at he
    exact va_alen C0.1 C0.2.1 C0.2.2.2.2.2.2.2.2.1.1 hA.1 a.toNat t0 he ht (v := I N) rfl hd w
  · rw [ent_ref hsh (by omega)] at he
    exact va_alen C0.1 C0.2.1 C0.2.2.2.2.2.2.2.2.1.1 hA.1 a.toNat t0 he ht (v := I N) rfl hd w
theorem num_set {cA : ClassId} {N i : Nat} {f : Nat → Int32} {x : Int32} (v : Value) (hv : v = .int x) : (arrV cA N (fun j => .int (f j))).setSlot i v = arrV cA N (fun j => .int (upd f i x j)) := by
  subst hv
  rw [arrV_store]
  congr 1
  funext q
  by_cases hq : q = i
  · subst hq
    simp [updV, upd]
  · simp [updV, upd, hq]
theorem a_iastore {N : Nat} {a i v : Int} (hd : decode Y.2.1 pc = .ok (.iastore, 1)) (ho : gx G n μ → 0 ≤ a ∧ a < n ∧ SH a = (20, N)) (i0 : 0 ≤ i) (i1 : i < N) (hx : gx G n μ → gx G n (up μ a i v)) (w : Wa G Y Z c0 s0 n (up μ a i v) (pc + 1) L st) : Wa G Y Z c0 s0 n μ pc L (.inl v :: .inl i :: .inr a :: st) := by
  intro p e s m args below meth c H locs ls C0 hA hS hl oL oS
  obtain ⟨h0, h1, h2⟩ := ho hA.2.2.2
  have en := a_toNat h0
  have ei := a_toNat i0
  have hi : a.toNat < n := by omega
  have hsh : SH (a.toNat : Int) = (20, N) := by rw [en]; exact h2
  have hrv : inR v := okS_hd oS
  have hri : inR i := okS_hd (okS_tl oS)
  have he := world_at (cA := gA G) (b0 := gb G) (μ := μ) hi
  rw [ent_num hsh (by decide) (by decide)] at he
  have hK := C0.2.2.2.2.2.2.2.2.1.1
  have hcl := I_clamp hri
  rw [List.map_cons, List.map_cons, List.map_cons, cv_ref h0]
  refine W.iast C0.1 C0.2.1 (hA.1 a.toNat _ he) ((hK.2 0 _ rfl).1 N (fun j => .int (I (μ a.toNat j)))) (fun q => by cases q) (by show ¬ (I i < 0 ∨ (arrV _ _ _).slots.size ≤ _); rw [arrV_size]; exact I_in hri i0 i1) rfl rfl hd fun H1 e1 z oq => ?_
  have hA' : AH G n (up μ a i v) H1 := by
    rw [← en, ← ei]
    refine AH_up hA hi ?_ z oq (fun _ => ?_) (by rw [en, ei]; exact hx hA.2.2.2)
    · rw [ent_up_num hsh (by decide) (by decide)]
      show H1[gb G + a.toNat]? = some (vp_cell _ _)
      rw [e1, hcl, vp_cell_i, vp_cell_i]
      exact congrArg some (num_set _ rfl)
    · rw [hsh]; exact hrv
  exact w p e s m args below meth c H1 _ ls C0 hA' (hS.put z oq (Nat.le_add_right _ _)) hl oL (okS_tl (okS_tl (okS_tl oS)))
theorem a_zastore {N : Nat} {a i v : Int} (hd : decode Y.2.1 pc = .ok (.bastore, 1)) (ho : gx G n μ → 0 ≤ a ∧ a < n ∧ SH a = (21, N)) (i0 : 0 ≤ i) (i1 : i < N) (hv : v = 0 ∨ v = 1) (hx : gx G n μ → gx G n (up μ a i v)) (w : Wa G Y Z c0 s0 n (up μ a i v) (pc + 1) L st) : Wa G Y Z c0 s0 n μ pc L (.inl v :: .inl i :: .inr a :: st) := by
  intro p e s m args below meth c H locs ls C0 hA hS hl oL oS
  obtain ⟨h0, h1, h2⟩ := ho hA.2.2.2
  have en := a_toNat h0
  have ei := a_toNat i0
  have hi : a.toNat < n := by omega
  have hsh : SH (a.toNat : Int) = (21, N) := by rw [en]; exact h2
  have hri : inR i := okS_hd (okS_tl oS)
  have he := world_at (cA := gA G) (b0 := gb G) (μ := μ) hi
  rw [ent_num hsh (by decide) (by decide)] at he
  have hK := C0.2.2.2.2.2.2.2.2.1.1
  have hcl := I_clamp hri
  rw [List.map_cons, List.map_cons, List.map_cons, cv_ref h0]
  refine W.zast C0.1 C0.2.1 (hA.1 a.toNat _ he) ((hK.2 1 _ rfl).1 N (fun j => .int (I (μ a.toNat j)))) (fun q => by cases q) (by show ¬ (I i < 0 ∨ (arrV _ _ _).slots.size ≤ _); rw [arrV_size]; exact I_in hri i0 i1) rfl rfl hd fun H1 e1 z oq => ?_
  have hA' : AH G n (up μ a i v) H1 := by
    rw [← en, ← ei]
    refine AH_up hA hi ?_ z oq (fun _ => ?_) (by rw [en, ei]; exact hx hA.2.2.2)
    · rw [ent_up_num hsh (by decide) (by decide)]
      show H1[gb G + a.toNat]? = some (vp_cell _ _)
      rw [e1, hcl, vp_cell_i, vp_cell_i]
      exact congrArg some (num_set _ (by rcases hv with rfl | rfl <;> rfl))
    · rw [hsh]; exact hv
  exact w p e s m args below meth c H1 _ ls C0 hA' (hS.put z oq (Nat.le_add_right _ _)) hl oL (okS_tl (okS_tl (okS_tl oS)))
theorem ref_set {cA : ClassId} {N i : Nat} {f : Nat → Option Nat} {x : Option Nat} (v : Value) (hv : v = va_rf x) : (arrV cA N (fun j => va_rf (f j))).setSlot i v = arrV cA N (fun j => va_rf (va_up f i x j)) := by
  subst hv
  rw [arrV_store]
  congr 1
  funext q
  by_cases hq : q = i
  · subst hq
    simp [updV, va_up]
  · simp [updV, va_up, hq]
theorem a_aastore {N N' kd t0 ci : Nat} {C : String} {T : u_T} {a i v : Int} (hd : decode Y.2.1 pc = .ok (.aastore, 1)) (hk : 22 ≤ kd) (ht : (tysG (gA G))[t0]? = some (gA G kd, .object C)) (ho : gx G n μ → 0 ≤ a ∧ a < n ∧ SH a = (kd, N)) (i0 : 0 ≤ i) (i1 : i < N)
    (F : ClF ci C T N') (hv : gx G n μ → 0 ≤ v ∧ v < n ∧ SH v = (ci, N')) (hx : gx G n μ → gx G n (up μ a i v)) (w : Wa G Y Z c0 s0 n (up μ a i v) (pc + 1) L st) : Wa G Y Z c0 s0 n μ pc L (.inr v :: .inl i :: .inr a :: st) := by
  intro p e s m args below meth c H locs ls C0 hA hS hl oL oS
  obtain ⟨h0, h1, h2⟩ := ho hA.2.2.2
  obtain ⟨v0, v1, v2⟩ := hv hA.2.2.2
  have en := a_toNat h0
  have ev := a_toNat v0
  have ei := a_toNat i0
  have hi : a.toNat < n := by omega
  have hsh : SH (a.toNat : Int) = (kd, N) := by rw [en]; exact h2
  have hvh : SH (v.toNat : Int) = (ci, N') := by rw [ev]; exact v2
  have hri : inR i := okS_hd (okS_tl oS)
  have he := world_at (cA := gA G) (b0 := gb G) (μ := μ) hi
  rw [ent_ref hsh hk] at he
  have hev := world_at (cA := gA G) (b0 := gb G) (μ := μ) (i := v.toNat) (n := n) (by omega)
  rw [ent_obj hvh F.1] at hev
  have hK := C0.2.2.2.2.2.2.2.2.1.1
  have hcl := I_clamp hri
  obtain ⟨r', hr', cellV, g1, g2, g3, -⟩ := hA.1 v.toNat _ hev
  have hcls := (hK.1 ci _ F.2.1).2
  obtain ⟨kA, comp, k1, k2, k3, -⟩ := (hK.2 t0 _ ht).2
  have hcomp : comp = (gD G).1 ci := Option.some.inj (k3.symm.trans hcls.1)
  subst hcomp
  obtain ⟨kC, hkC, -⟩ := hcls.2
  have h0' : ¬ I i < 0 := fun q => I_in hri i0 i1 (Or.inl q)
  have hlt : (I i).toNatClampNeg < N := by rw [hcl]; omega
  rw [List.map_cons, List.map_cons, List.map_cons, cv_ref h0, cv_ref v0]
  refine W.aast C0.1 C0.2.1 (hA.1 a.toNat _ he) (fun q h => by cases h) (fun h => by cases h) k1 k2 rfl hkC ⟨h0', by show _ < (arrV _ _ _).slots.size; rw [arrV_size]; exact hlt⟩ g1 (fun q h => by rw [g3] at h; cases h) (by rw [g2]; exact hkC) (by rw [g2]; exact va_assign hcls) rfl rfl hd fun H1 e1 z oq => ?_
  have hA' : AH G n (up μ a i v) H1 := by
    rw [← en, ← ei]
    refine AH_up hA hi ?_ z oq (fun _ => ?_) (by rw [en, ei]; exact hx hA.2.2.2)
    · rw [ent_up_ref hsh hk]
      show H1[gb G + a.toNat]? = some (vp_cell _ _)
      rw [e1, hcl, vp_cell_q, vp_cell_q]
      refine congrArg some (ref_set _ ?_)
      rw [rf_cv, cv_ref v0]
    · rw [hsh]
      have : ety kd i.toNat = .object "" := by
        unfold ety
        rw [if_neg (by omega), if_neg (by omega), if_neg (by omega)]
      rw [this]
      trivial
  exact w p e s m args below meth c H1 _ ls C0 hA' (hS.put z oq (Nat.le_add_right _ _)) hl oL (okS_tl (okS_tl (okS_tl oS)))
theorem objD_ok (ci k : Nat) (h : smallT (tyC ci k)) : okT (tyC ci k) (objD ci k) ∧ cv 0 (av (tyC ci k) (objD ci k)) = defaultValue (tyC ci k) := by
  have e : objD ci (k : Int) = if isRefT (tyC ci k) = true then -1 else 0 := rfl
  rw [e]
  obtain ⟨h1, h2, h3, h4, h5, h6⟩ := h
  generalize tyC ci k = t at h1 h2 h3 h4 h5 h6 ⊢
  cases t with
  | int => exact ⟨⟨by decide, by decide⟩, rfl⟩
  | boolean => exact ⟨Or.inl rfl, rfl⟩
  | object _ => exact ⟨trivial, rfl⟩
  | array _ => exact ⟨trivial, rfl⟩
  | byte => exact absurd rfl h1
  | char => exact absurd rfl h2
  | short => exact absurd rfl h3
  | long => exact absurd rfl h4
  | float => exact absurd rfl h5
  | double => exact absurd rfl h6
theorem objD_cv (ci k b0 : Nat) : cv b0 (av (tyC ci k) (objD ci k)) = cv 0 (av (tyC ci k) (objD ci k)) := by
  have e : objD ci (k : Int) = if isRefT (tyC ci k) = true then -1 else 0 := rfl
  rw [e]
  unfold av
  by_cases h : isRefT (tyC ci k) = true
  · rw [if_pos h, if_pos h]; rfl
  · rw [if_neg h, if_neg h]; rfl
theorem a_new {ci N idx : Nat} {C : String} {T : u_T} (F : ClF ci C T N) (hty : ∀ k, k < N → smallT (tyC ci k)) (hd : decode Y.2.1 pc = .ok (.new idx, 3)) (hl : Cond.classLink Y.1.cls idx C ∈ gT) (hi : Cond.instantiable C N ∈ gT) (hin : Cond.initialized C ∈ gT) (hsh : SH (n : Int) = (ci, N))
    (hc : c0 + 1 ≤ Y.2.2.2.2.2.2.1) (hs : s0 + N ≤ Y.2.2.2.2.2.2.2) (hx : gx G n μ → gx G (n + 1) (nw μ n (objD ci))) (w : Wa G Y Z (c0 + 1) (s0 + N) (n + 1) (nw μ n (objD ci)) (pc + 3) L (.inr n :: st)) : Wa G Y Z c0 s0 n μ pc L st := by
  intro p e s m args below meth c H locs ls C0 hA hS hl' oL oS
  obtain ⟨C1, C2, C3, C4, C5, C6, C7, C8, C9⟩ := id C0
  have hKn := C9.1.1.1 ci _ F.2.1
  refine W.newcK C1 C2 C7 (C8 _ hl) (C8 _ hi) (C8 _ hin) rfl hd hc hs hKn.2.1 rfl fun H1 kC hkC e1 z1 o1 => ?_
  have hA' : AH G (n + 1) (nw μ n (objD ci)) H1 := by
    refine AH_nw hA ?_ z1 o1 (fun j hj => ?_) (hx hA.2.2.2)
    · rw [ent_obj hsh F.1, nw_at]
      have hb := u_born (tyC ci) C8 F.2.2.2.2 hKn hkC e1 F.2.2.1
      rw [hA.2.1] at hb
      refine ⟨_, F.2.1, hb.to (fun j hj => ?_)⟩
      have := (objD_ok ci j (hty j hj)).2
      simp only [vp_V, List.getD, List.getElem?_map, List.getElem?_range hj, Option.map_some, Option.getD_some]
      rw [objD_cv, this]
    · rw [hsh] at hj ⊢
      have : ety ci j = tyC ci j := if_pos F.1
      rw [this]
      exact (objD_ok ci j (hty j hj)).1
  have w := w p e s m args below meth c H1 locs ls C0 hA' ⟨Nat.le_trans hS.1 (by omega), fun x h1 h2 => (o1 x (Nat.lt_of_lt_of_le h1 hS.1)).trans (hS.2.1 x h1 h2), hS.2.2⟩ hl' oL (okS_cons trivial oS)
  rw [List.map_cons, cv_ref (by omega), Int.toNat_natCast, ← hA.2.1] at w
  exact w
theorem fc_pin {U : State} {cA : ClassId} {t : FieldType} (h : va_RA U cA t) : U.vm.findClass ("[" ++ t.toString) = some cA := by
  cases t with
  | object C =>
    obtain ⟨_, _, _, _, _, h⟩ := h
    exact h
  | _ => exact h
theorem a_newint {N : Nat} (hd : decode Y.2.1 pc = .ok (.newarray .int, 2)) (harr : Cond.arrayClass (newarray.typeOf .int) ∈ gT) (hN : N < 1000000) (hsh : SH (n : Int) = (20, N)) (hc : c0 + 1 ≤ Y.2.2.2.2.2.2.1) (hs : s0 + N ≤ Y.2.2.2.2.2.2.2)
    (hx : gx G n μ → gx G (n + 1) (nw μ n zeroD)) (w : Wa G Y Z (c0 + 1) (s0 + N) (n + 1) (nw μ n zeroD) (pc + 2) L (.inr n :: st)) : Wa G Y Z c0 s0 n μ pc L (.inl N :: st) := by
  intro p e s m args below meth c H locs ls C0 hA hS hl' oL oS
  obtain ⟨C1, C2, C3, C4, C5, C6, C7, C8, C9⟩ := id C0
  have hr : inR (N : Int) := okS_hd oS
  have hcl : (I (N : Int)).toNatClampNeg = N := by rw [I_clamp hr]; omega
  refine va_newaK C1 C2 (C8 _ harr) rfl hd rfl (fun q => ?_) hcl (by show N * 4 ≤ _; omega) hc hs rfl fun H1 cA e1 z1 o1 hAr hNm => ?_
  · rw [I_zero, I_lt hr zero_in] at q
    omega
  have hcA : cA = gA G 20 := Option.some.inj (hNm.symm.trans (fc_pin (C9.1.1.2 0 _ rfl).2))
  have hA' : AH G (n + 1) (nw μ n zeroD) H1 := by
    refine AH_nw hA ?_ z1 o1 (fun j hj => ?_) (hx hA.2.2.2)
    · rw [ent_num hsh (by decide) (by decide), nw_at]
      show H1[gb G + n]? = some (vp_cell _ _)
      rw [vp_cell_i, ← hA.2.1, e1, hcA]
      rfl
    · rw [hsh]
      exact zero_in
  have w := w p e s m args below meth c H1 locs ls C0 hA' ⟨Nat.le_trans hS.1 (by omega), fun x h1 h2 => (o1 x (Nat.lt_of_lt_of_le h1 hS.1)).trans (hS.2.1 x h1 h2), hS.2.2⟩ hl' oL (okS_cons trivial (okS_tl oS))
  rw [List.map_cons, cv_ref (by omega), Int.toNat_natCast, ← hA.2.1] at w
  exact w
theorem a_newbool {N : Nat} (hd : decode Y.2.1 pc = .ok (.newarray .boolean, 2)) (harr : Cond.arrayClass (newarray.typeOf .boolean) ∈ gT) (hN : N < 1000000) (hsh : SH (n : Int) = (21, N)) (hc : c0 + 1 ≤ Y.2.2.2.2.2.2.1) (hs : s0 + N ≤ Y.2.2.2.2.2.2.2)
    (hx : gx G n μ → gx G (n + 1) (nw μ n zeroD)) (w : Wa G Y Z (c0 + 1) (s0 + N) (n + 1) (nw μ n zeroD) (pc + 2) L (.inr n :: st)) : Wa G Y Z c0 s0 n μ pc L (.inl N :: st) := by
  intro p e s m args below meth c H locs ls C0 hA hS hl' oL oS
  obtain ⟨C1, C2, C3, C4, C5, C6, C7, C8, C9⟩ := id C0
  have hr : inR (N : Int) := okS_hd oS
  have hcl : (I (N : Int)).toNatClampNeg = N := by rw [I_clamp hr]; omega
  refine va_newaK C1 C2 (C8 _ harr) rfl hd rfl (fun q => ?_) hcl (by show N * 1 ≤ _; omega) hc hs rfl fun H1 cA e1 z1 o1 hAr hNm => ?_
  · rw [I_zero, I_lt hr zero_in] at q
    omega
  have hcA : cA = gA G 21 := Option.some.inj (hNm.symm.trans (fc_pin (C9.1.1.2 1 _ rfl).2))
  have hA' : AH G (n + 1) (nw μ n zeroD) H1 := by
    refine AH_nw hA ?_ z1 o1 (fun j hj => ?_) (hx hA.2.2.2)
    · rw [ent_num hsh (by decide) (by decide), nw_at]
      show H1[gb G + n]? = some (vp_cell _ _)
      rw [vp_cell_i, ← hA.2.1, e1, hcA]
      rfl
    · rw [hsh]
      exact Or.inl rfl
  have w := w p e s m args below meth c H1 locs ls C0 hA' ⟨Nat.le_trans hS.1 (by omega), fun x h1 h2 => (o1 x (Nat.lt_of_lt_of_le h1 hS.1)).trans (hS.2.1 x h1 h2), hS.2.2⟩ hl' oL (okS_cons trivial (okS_tl oS))
  rw [List.map_cons, cv_ref (by omega), Int.toNat_natCast, ← hA.2.1] at w
  exact w
theorem a_newref {N kd t0 idx : Nat} {C : String} (hd : decode Y.2.1 pc = .ok (.anewarray idx, 3)) (hk : 22 ≤ kd) (ht : (tysG (gA G))[t0]? = some (gA G kd, .object C)) (hl : Cond.classLink Y.1.cls idx C ∈ gT) (hao : ∀ U, K0 G U → va_AO C U) (hN : N < 1000000) (hsh : SH (n : Int) = (kd, N)) (hc : c0 + 1 ≤ Y.2.2.2.2.2.2.1) (hs : s0 + N ≤ Y.2.2.2.2.2.2.2)
    (hx : gx G n μ → gx G (n + 1) (nw μ n nullD)) (w : Wa G Y Z (c0 + 1) (s0 + N) (n + 1) (nw μ n nullD) (pc + 3) L (.inr n :: st)) : Wa G Y Z c0 s0 n μ pc L (.inl N :: st) := by
  intro p e s m args below meth c H locs ls C0 hA hS hl' oL oS
  obtain ⟨C1, C2, C3, C4, C5, C6, C7, C8, C9⟩ := id C0
  have hr : inR (N : Int) := okS_hd oS
  have hcl : (I (N : Int)).toNatClampNeg = N := by rw [I_clamp hr]; omega
  have hlk := C8 _ hl
  refine W.anew C1 C2 C7 hlk (va_AO.use (hao s C9.1)) rfl hd rfl (fun q => ?_) (by rw [hcl]; omega) hc (by rw [hcl]; exact hs) fun cA kA comp f1 f2 f3 f4 => ?_
  · rw [I_zero, I_lt hr zero_in] at q
    omega
  rw [hcl]
  generalize hH1 : H.push ({ cls := cA, slots := Array.replicate N .null, vm := .none } : Cell) = H1
  have z1 : H1.size = H.size + 1 := by rw [← hH1, Array.size_push]
  have e1 : H1[H.size]? = some (arrV cA N (fun _ => .null)) := by rw [← hH1, Array.getElem?_push_size, ← arrV_new]
  have o1 : ∀ q : Nat, q < H.size → H1[q]? = H[q]? := fun q hq => by rw [← hH1, Array.getElem?_push, if_neg (Nat.ne_of_lt hq)]
  have hcA : cA = gA G kd := Option.some.inj (f1.symm.trans (fc_pin (C9.1.1.2 t0 _ ht).2))
  have hA' : AH G (n + 1) (nw μ n nullD) H1 := by
    refine AH_nw hA ?_ z1 o1 (fun j hj => ?_) (hx hA.2.2.2)
    · rw [ent_ref hsh hk, nw_at]
      show H1[gb G + n]? = some (vp_cell _ _)
      rw [vp_cell_q, ← hA.2.1, e1, hcA]
      rfl
    · rw [hsh]
      have : ety kd j = .object "" := by
        unfold ety
        rw [if_neg (by omega), if_neg (by omega), if_neg (by omega)]
      rw [this]
      trivial
  have w := w p e s m args below meth c H1 locs ls C0 hA' ⟨Nat.le_trans hS.1 (by omega), fun x h1 h2 => (o1 x (Nat.lt_of_lt_of_le h1 hS.1)).trans (hS.2.1 x h1 h2), hS.2.2⟩ hl' oL (okS_cons trivial (okS_tl oS))
  rw [List.map_cons, cv_ref (by omega), Int.toNat_natCast, ← hA.2.1] at w
  exact w
theorem cat_sum (b0 : Nat) (st : List AV) : ((st.map (cv b0)).map fun v => v.category).sum = st.length := by
  induction st with
  | nil => rfl
  | cons v t ih =>
    rw [List.map_cons, List.map_cons, List.sum_cons, ih, cv_cat, List.length_cons]
    omega
theorem a_objInit {idx : Nat} {a : Int} (hd : decode Y.2.1 pc = .ok (.invokespecial idx, 3)) (hl : Cond.methodLink Y.1.cls idx Lib.objectInit ∈ gT) (h1 : Cond.instanceMethod Lib.objectInit ∈ gT) (h2 : Cond.code Lib.objectInit ⟨#[0xb1]⟩ 1 none ∈ gT) (ha : 0 ≤ a) (hst : st.length ≤ 8)
    (hf : 1 ≤ Y.2.2.2.2.1) (hlo : 20 ≤ Y.2.2.2.2.2.1) (w : Wa G Y Z c0 s0 n μ (pc + 3) L st) : Wa G Y Z c0 s0 n μ pc L (.inr a :: st) := by
  intro p e s m args below meth c H locs ls C0 hA hS hl' oL oS
  obtain ⟨C1, C2, C3, C4, C5, C6, C7, C8, C9⟩ := id C0
  have w := w p e s m args below meth c H locs ls C0 hA hS hl' oL (okS_tl oS)
  rw [List.map_cons, cv_ref ha]
  refine W.objInit C1 C2 C7 (C8 _ hl) (C8 _ h1) (C8 _ h2) rfl (by rw [C3]; exact hl'.1) rfl hd hf ?_ w
  rw [cat_sum]
  show 2 * 0 + st.length + 12 ≤ Y.2.2.2.2.2.1
  omega
theorem a_max {idx : Nat} {x y : Int} (hd : decode Y.2.1 pc = .ok (.invokestatic idx, 3)) (hl : Cond.methodLink Y.1.cls idx Lib.Math.max.name ∈ gT) (h1 : Cond.static Lib.Math.max.name ∈ gT) (h2 : Cond.initialized "java/lang/Math" ∈ gT) (h3 : Cond.code Lib.Math.max.name Lib.Math.max.code 2 (some .int) ∈ gT) (hst : st.length ≤ 7)
    (hf : 1 ≤ Y.2.2.2.2.1) (hlo : 20 ≤ Y.2.2.2.2.2.1) (hc : c0 ≤ Y.2.2.2.2.2.2.1) (hs : s0 ≤ Y.2.2.2.2.2.2.2) (w : Wa G Y Z c0 s0 n μ (pc + 3) L (.inl (if x < y then y else x) :: st)) : Wa G Y Z c0 s0 n μ pc L (.inl y :: .inl x :: st) := by
  intro p e s m args below meth c H locs ls C0 hA hS hl' oL oS
  obtain ⟨C1, C2, C3, C4, C5, C6, C7, C8, C9⟩ := id C0
  have hy : inR y := okS_hd oS
  have hx : inR x := okS_hd (okS_tl oS)
  have w := w p e s m args below meth c H locs ls C0 hA hS hl' oL (okS_cons (by show inR _; split <;> assumption) (okS_tl (okS_tl oS)))
  refine va_mmax C1 C2 (by rw [C3]; exact hl'.1.symm) C7 (C8 _ hl) (C8 _ h1) (C8 _ h2) (C8 _ h3) hf ?_ hc hs hd ?_
  · rw [cat_sum]
    show st.length + 13 ≤ Y.2.2.2.2.2.1
    omega
  · have e1 : (if I x < I y then I y else I x) = I (if x < y then y else x) := by
      by_cases h : x < y
      · rw [if_pos h, if_pos ((I_lt hx hy).mpr h)]
      · rw [if_neg h, if_neg (fun q => h ((I_lt hx hy).mp q))]
    rw [e1]
    exact w
theorem a_min {idx : Nat} {x y : Int} (hd : decode Y.2.1 pc = .ok (.invokestatic idx, 3)) (hl : Cond.methodLink Y.1.cls idx Lib.Math.min.name ∈ gT) (h1 : Cond.static Lib.Math.min.name ∈ gT) (h2 : Cond.initialized "java/lang/Math" ∈ gT) (h3 : Cond.code Lib.Math.min.name Lib.Math.min.code 2 (some .int) ∈ gT) (hst : st.length ≤ 7)
    (hf : 1 ≤ Y.2.2.2.2.1) (hlo : 20 ≤ Y.2.2.2.2.2.1) (hc : c0 ≤ Y.2.2.2.2.2.2.1) (hs : s0 ≤ Y.2.2.2.2.2.2.2) (w : Wa G Y Z c0 s0 n μ (pc + 3) L (.inl (if y < x then y else x) :: st)) : Wa G Y Z c0 s0 n μ pc L (.inl y :: .inl x :: st) := by
  intro p e s m args below meth c H locs ls C0 hA hS hl' oL oS
  obtain ⟨C1, C2, C3, C4, C5, C6, C7, C8, C9⟩ := id C0
  have hy : inR y := okS_hd oS
  have hx : inR x := okS_hd (okS_tl oS)
  have w := w p e s m args below meth c H locs ls C0 hA hS hl' oL (okS_cons (by show inR _; split <;> assumption) (okS_tl (okS_tl oS)))
  refine va_mmin C1 C2 (by rw [C3]; exact hl'.1.symm) C7 (C8 _ hl) (C8 _ h1) (C8 _ h2) (C8 _ h3) hf ?_ hc hs hd ?_
  · rw [cat_sum]
    show st.length + 13 ≤ Y.2.2.2.2.2.1
    omega
  · have e1 : (if I y < I x then I y else I x) = I (if y < x then y else x) := by
      by_cases h : y < x
      · rw [if_pos h, if_pos ((I_lt hy hx).mpr h)]
      · rw [if_neg h, if_neg (fun q => h ((I_lt hy hx).mp q))]
    rw [e1]
    exact w
end RowsD
