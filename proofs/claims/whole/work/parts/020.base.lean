-- the abstract heap, the judgement Wa over it, and its first rows
abbrev AV : Type := Int ⊕ Int
abbrev Mem : Type := Int → Int → Int
abbrev inR (n : Int) : Prop := -2147483648 ≤ n ∧ n < 2147483648
def I (n : Int) : Int32 := Int32.ofInt n
def wrap (n : Int) : Int := (n + 2147483648) % 4294967296 - 2147483648
theorem wrap_in (n : Int) : inR (wrap n) := by unfold wrap; constructor <;> omega
theorem wrap_eq {n : Int} (h : inR n) : wrap n = n := by unfold wrap; omega
theorem I_toInt {n : Int} (h : inR n) : (I n).toInt = n := Int32.toInt_ofInt_of_le h.1 h.2
theorem I_wrap (n : Int) : I (wrap n) = I n := by
  apply Int32.toInt_inj.mp
  rw [I_toInt (wrap_in n)]
  unfold I
  rw [Int32.toInt_ofInt]
  show wrap n = n.bmod 4294967296
  unfold wrap Int.bmod
  simp only []
  split <;> omega
theorem I_of (x : Int32) : I x.toInt = x := Int32.ofInt_toInt x
theorem I_inR (x : Int32) : inR x.toInt := ⟨Int32.le_toInt x, Int32.toInt_lt x⟩
theorem I_add (x y : Int) : I (x + y) = I x + I y := Int32.ofInt_add x y
theorem I_sub (x y : Int) : I (x - y) = I x - I y := Int32.ofInt_sub x y
theorem I_mul (x y : Int) : I (x * y) = I x * I y := Int32.ofInt_mul x y
theorem I_lt {x y : Int} (hx : inR x) (hy : inR y) : I x < I y ↔ x < y := by rw [Int32.lt_iff_toInt_lt, I_toInt hx, I_toInt hy]
theorem I_le {x y : Int} (hx : inR x) (hy : inR y) : I x ≤ I y ↔ x ≤ y := by rw [Int32.le_iff_toInt_le, I_toInt hx, I_toInt hy]
theorem I_eq {x y : Int} (hx : inR x) (hy : inR y) : I x = I y ↔ x = y := by rw [← Int32.toInt_inj, I_toInt hx, I_toInt hy]
theorem I_zero : (0 : Int32) = I 0 := rfl
theorem I_clamp {n : Int} (h : inR n) : (I n).toNatClampNeg = n.toNat := Int32.toNatClampNeg_ofInt_of_le h.1 h.2
theorem I_in {i : Int} {n : Nat} (h : inR i) (h0 : 0 ≤ i) (h1 : i < n) : vp_in (I i) n := by
  unfold vp_in
  rw [I_clamp h, I_zero, I_lt h (by constructor <;> omega)]
  omega
/-- a value: an int, or the place of a cell (null if negative) -/
def cv (b0 : Nat) (v : AV) : Value := match v with
  | .inl n => .int (I n)
  | .inr a => if a < 0 then .null else .ref (b0 + a.toNat)
theorem cv_ref {b0 : Nat} {a : Int} (h : 0 ≤ a) : cv b0 (.inr a) = .ref (b0 + a.toNat) := by
  show (if a < 0 then Value.null else Value.ref (b0 + a.toNat)) = _
  rw [if_neg (by omega)]
theorem cv_null {b0 : Nat} {a : Int} (h : a < 0) : cv b0 (.inr a) = .null := by
  show (if a < 0 then Value.null else Value.ref (b0 + a.toNat)) = _
  rw [if_pos h]
theorem cv_cat (b0 : Nat) (v : AV) : (cv b0 v).category = 1 := by
  cases v with
  | inl n => rfl
  | inr a =>
    show (if a < 0 then Value.null else Value.ref (b0 + a.toNat)).category = 1
    split <;> rfl
def okV (v : AV) : Prop := match v with
  | .inl n => inR n
  | .inr _ => True
def okS (st : List AV) : Prop := ∀ v ∈ st, okV v
def okL (L : List (Nat × AV)) : Prop := ∀ q ∈ L, okV q.2
def cvL (b0 : Nat) (L : List (Nat × AV)) : List (Nat × Value) := L.map fun q => (q.1, cv b0 q.2)
theorem okS_cons {v : AV} {st : List AV} (h : okV v) (t : okS st) : okS (v :: st) := fun x hx => by
  rcases List.mem_cons.mp hx with rfl | hx
  · exact h
  · exact t x hx
theorem okS_hd {v : AV} {st : List AV} (h : okS (v :: st)) : okV v := h v List.mem_cons_self
theorem okS_tl {v : AV} {st : List AV} (h : okS (v :: st)) : okS st := fun x hx => h x (List.mem_cons_of_mem _ hx)
def isRefT (t : FieldType) : Bool := match t with
  | .object _ => true
  | .array _ => true
  | _ => false
def av (t : FieldType) (v : Int) : AV := if isRefT t = true then .inr v else .inl v
def okT (t : FieldType) (v : Int) : Prop := match t with
  | .object _ => True
  | .array _ => True
  | .boolean => v = 0 ∨ v = 1
  | _ => inR v
theorem okT_av {t : FieldType} {v : Int} (h : okT t v) : okV (av t v) := by
  cases t <;> first | exact h | trivial | (rcases h with rfl | rfl <;> exact ⟨by decide, by decide⟩)
def ety (k j : Nat) : FieldType := if k < 12 then tyC k j else if k = 20 then .int else if k = 21 then .boolean else .object ""
abbrev GT : Type := Launch × Nat × va_G × (Nat → ClassId) × (Nat → Mem → Prop)
def gl (G : GT) : Launch := G.1
def gb (G : GT) : Nat := G.2.1
def gD (G : GT) : va_G := G.2.2.1
def gA (G : GT) : Nat → ClassId := G.2.2.2.1
def gx (G : GT) : Nat → Mem → Prop := G.2.2.2.2
def ent (cA : Nat → ClassId) (b0 : Nat) (μ : Mem) (i : Nat) : va_E :=
  if (SH i).1 < 12 then .inr ((SH i).1, (List.range (SH i).2).map (fun j => cv b0 (av (tyC (SH i).1 j) (μ i j))))
  else if (SH i).1 < 22 then .inl (cA (SH i).1, (SH i).2, .inl (fun j => I (μ i j)))
  else .inl (cA (SH i).1, (SH i).2, .inr (.inr (.inr (.inr (fun j => if μ i j < 0 then none else some (b0 + (μ i j).toNat))))))
def world (cA : Nat → ClassId) (b0 : Nat) (n : Nat) (μ : Mem) : va_W := (List.range n).map fun i => (b0 + i, ent cA b0 μ i)
theorem world_at {cA : Nat → ClassId} {b0 n i : Nat} {μ : Mem} (h : i < n) : (world cA b0 n μ)[i]? = some (b0 + i, ent cA b0 μ i) := by
  unfold world
  rw [List.getElem?_map, List.getElem?_range h]
  rfl
theorem world_none {cA : Nat → ClassId} {b0 n i : Nat} {μ : Mem} (h : n ≤ i) : (world cA b0 n μ)[i]? = none := by
  unfold world
  rw [List.getElem?_map, List.getElem?_eq_none (by simpa using h)]
  rfl
theorem world_some {cA : Nat → ClassId} {b0 n i : Nat} {μ : Mem} {q : Nat × va_E} (h : (world cA b0 n μ)[i]? = some q) : i < n ∧ q = (b0 + i, ent cA b0 μ i) := by
  by_cases hi : i < n
  · rw [world_at hi] at h
    exact ⟨hi, (Option.some.inj h).symm⟩
  · rw [world_none (by omega)] at h
    cases h
theorem world_D (cA : Nat → ClassId) (b0 n : Nat) (μ : Mem) : va_D (fun q : Nat => b0 ≤ q) (world cA b0 n μ) := by
  refine ⟨fun i j p q hi hj e => ?_, fun k q hk => ?_⟩
  · obtain ⟨-, rfl⟩ := world_some hi
    obtain ⟨-, rfl⟩ := world_some hj
    have e' : b0 + i = b0 + j := e
    omega
  · obtain ⟨-, rfl⟩ := world_some hk
    exact Nat.le_add_right _ _
theorem world_set {cA : Nat → ClassId} {b0 n i : Nat} {μ ν : Mem} {e : va_E} (h1 : ent cA b0 ν i = e) (h2 : ∀ j : Nat, j ≠ i → ent cA b0 ν j = ent cA b0 μ j) : (world cA b0 n μ).set i (b0 + i, e) = world cA b0 n ν := by
  apply List.ext_getElem?
  intro j
  by_cases hj : j < n
  · rw [world_at hj]
    by_cases hji : i = j
    · subst hji
      rw [List.getElem?_set_self (by simpa [world] using hj), h1]
    · rw [List.getElem?_set_ne hji, world_at hj, h2 j (Ne.symm hji)]
  · rw [world_none (by omega)]
    exact List.getElem?_eq_none (by simpa [world] using Nat.le_of_not_lt hj)
def tysG (cA : Nat → ClassId) : List (ClassId × FieldType) := [(cA 20, .int), (cA 21, .boolean), (cA 22, .object "ContactWays$Bundle"), (cA 23, .object "ContactWays$Contact"), (cA 24, .object "ContactWays$Situation")]
/-- what holds of the heap: each cell as the memory says, the numbers in range -/
def AH (G : GT) (n : Nat) (μ : Mem) (H : Heap) : Prop :=
  va_P (gD G) vwCl (world (gA G) (gb G) n μ) H ∧ H.size = gb G + n ∧ (∀ i j : Nat, i < n → j < (SH i).2 → okT (ety (SH i).1 j) (μ i j)) ∧ gx G n μ
def isNest (w : Cond) : Bool := match w with
  | .fieldLinkNest .. => true
  | .methodLinkNest .. => true
  | _ => false
def gT : List Cond := lw_tbl.filter goodWord
def gN : List Cond := lw_tbl.filter isNest
def K0 (G : GT) (U : State) : Prop := va_K (gD G) vwCl (tysG (gA G)) U ∧ (∀ w ∈ gN, va_Nw w U) ∧ va_AO "ContactWays$Bundle" U ∧ va_AO "ContactWays$Contact" U ∧ va_AO "ContactWays$Situation" U
theorem K0_warm {G : GT} {s U : State} (hW : s.WarmedH U.vm) (h : K0 G s) : K0 G U := by
  obtain ⟨h1, h2, h3, h4, h5⟩ := h
  refine ⟨va_K.moved hW.alike h1, fun w hw => ?_, va_AO.moved hW.alike h3, va_AO.moved hW.alike h4, va_AO.moved hW.alike h5⟩
  have hn : isNest w = true := (List.mem_filter.mp hw).2
  have h := h2 w hw
  cases w <;> first | exact va_Nw.warmF hW h | exact va_Nw.warmM hW h | (exact absurd hn (by decide)) | (simp [isNest] at hn)
theorem K0_calling {G : GT} {U : State} (g : JFrame) (mk : MethodId) (a : Array Value) (h : K0 G U) : K0 G (U.calling g mk a) := by
  obtain ⟨h1, h2, h3, h4, h5⟩ := h
  have hv : (U.calling g mk a).vm = U.vm := rfl
  refine ⟨va_K.moved (u := U) (U := U.calling g mk a) (Vm.Alike.refl U.vm) h1, fun w hw => ?_, va_AO.moved (u := U) (U := U.calling g mk a) (Vm.Alike.refl U.vm) h3, va_AO.moved (u := U) (U := U.calling g mk a) (Vm.Alike.refl U.vm) h4, va_AO.moved (u := U) (U := U.calling g mk a) (Vm.Alike.refl U.vm) h5⟩
  have hn : isNest w = true := (List.mem_filter.mp hw).2
  have h := h2 w hw
  cases w <;> first | exact va_tabs rfl hv.symm h | (simp [isNest] at hn)
/-- a method: its name, code, locals, return type, and its room: frames, locals, cells, slots -/
abbrev MD : Type := MethodName × ByteArray × Nat × Option FieldType × Nat × Nat × Nat × Nat
def rmOf (Y : MD) : Room := { frames := Y.2.2.2.2.1, cells := Y.2.2.2.2.2.2.1, slots := Y.2.2.2.2.2.2.2, locals := Y.2.2.2.2.2.1 }
def wsM (Y : MD) : List Cond := Cond.code Y.1 Y.2.1 Y.2.2.1 Y.2.2.2.1 :: gT
/-- the end that is wanted, and what is known of the start beside -/
abbrev ZT : Type := (List Frame → Array Value → State → State → Prop) × (Array Value → State → Prop)
def Cx (G : GT) (Y : MD) (Z : ZT) (p : Program) (s : State) (m : MethodId) (args : Array Value) (meth : Method) (c : Code) : Prop :=
  p.tables.exec = Jvm.exec ∧ c.code = Y.2.1 ∧ c.maxLocals = Y.2.2.1 ∧ meth.sig.returnType = Y.2.2.2.1 ∧ meth.locks = false ∧ (Y.1.name = "<init>" → meth.name = "<init>") ∧ s.vm.findClass Y.1.cls = some m.cls ∧
  (∀ w ∈ gT, w.before args s = true) ∧ K0 G s ∧ gb G ≤ s.heap.size ∧ Z.2 args s
/-- from here, with this memory, locals and stack, the machine comes to its end -/
def Wa (G : GT) (Y : MD) (Z : ZT) (cells slots : Nat) (n : Nat) (μ : Mem) (pc : Nat) (L : List (Nat × AV)) (st : List AV) : Prop :=
  ∀ (p : Program) (e : Env) (s : State) (m : MethodId) (args : Array Value) (below : List Frame) (meth : Method) (c : Code) (H : Heap) (locs : List Loc) (ls : Array Slot),
    Cx G Y Z p s m args meth c → AH G n μ H → va_S (fun q : Nat => gb G ≤ q) s.heap H locs → lv_has ls Y.2.2.1 (cvL (gb G) L) → okL L → okS st →
    W p (gl G) e (rmOf Y) s m args below meth c H locs cells slots (Z.1 below args s) (F0 m pc ls (st.map (cv (gb G))))
section RowsA
variable {G : GT} {Y : MD} {Z : ZT} {c0 s0 n pc : Nat} {μ : Mem} {L : List (Nat × AV)} {st : List AV}
theorem a_iconst {k : Int} (hd : decode Y.2.1 pc = .ok (.iconst k, 1)) (hr : inR k) (w : Wa G Y Z c0 s0 n μ (pc + 1) L (.inl k :: st)) : Wa G Y Z c0 s0 n μ pc L st := by
  intro p e s m args below meth c H locs ls C hA hS hl oL oS
  exact lv_iconst C.1 C.2.1 hd rfl (w p e s m args below meth c H locs ls C hA hS hl oL (okS_cons hr oS))
theorem a_bipush {k : Int} (hd : decode Y.2.1 pc = .ok (.bipush k, 2)) (hr : inR k) (hk : (Int8.ofInt k).toInt32 = I k) (w : Wa G Y Z c0 s0 n μ (pc + 2) L (.inl k :: st)) : Wa G Y Z c0 s0 n μ pc L st := by
  intro p e s m args below meth c H locs ls C hA hS hl oL oS
  exact lv_bipush C.1 C.2.1 hd hk (w p e s m args below meth c H locs ls C hA hS hl oL (okS_cons hr oS))
theorem a_sipush {k : Int} (hd : decode Y.2.1 pc = .ok (.sipush k, 3)) (hr : inR k) (hk : (Int16.ofInt k).toInt32 = I k) (w : Wa G Y Z c0 s0 n μ (pc + 3) L (.inl k :: st)) : Wa G Y Z c0 s0 n μ pc L st := by
  intro p e s m args below meth c H locs ls C hA hS hl oL oS
  exact lv_sipush C.1 C.2.1 hd hk (w p e s m args below meth c H locs ls C hA hS hl oL (okS_cons hr oS))
theorem cvL_at {b0 k i : Nat} {v : AV} {L : List (Nat × AV)} (h : L[k]? = some (i, v)) : (cvL b0 L)[k]? = some (i, cv b0 v) := by
  unfold cvL
  rw [List.getElem?_map, h]
  rfl
theorem okL_at {k i : Nat} {v : AV} {L : List (Nat × AV)} (o : okL L) (h : L[k]? = some (i, v)) : okV v := o (i, v) (List.mem_of_getElem? h)
theorem a_iload_n {q : Fin 4} {k : Nat} {i : Nat} {x : Int} (hd : decode Y.2.1 pc = .ok (.iload_n q, 1)) (hi : (q : Nat) = i) (hk : L[k]? = some (i, .inl x)) (w : Wa G Y Z c0 s0 n μ (pc + 1) L (.inl x :: st)) : Wa G Y Z c0 s0 n μ pc L st := by
  intro p e s m args below meth c H locs ls C hA hS hl oL oS
  exact lv_iload_n C.1 C.2.1 hd hi (lv_at hl k (cvL_at hk)) (w p e s m args below meth c H locs ls C hA hS hl oL (okS_cons (okL_at oL hk) oS))
theorem a_iload {k : Nat} {i : Nat} {x : Int} (hd : decode Y.2.1 pc = .ok (.iload i, 2)) (hk : L[k]? = some (i, .inl x)) (w : Wa G Y Z c0 s0 n μ (pc + 2) L (.inl x :: st)) : Wa G Y Z c0 s0 n μ pc L st := by
  intro p e s m args below meth c H locs ls C hA hS hl oL oS
  exact lv_iload C.1 C.2.1 hd (lv_at hl k (cvL_at hk)) (w p e s m args below meth c H locs ls C hA hS hl oL (okS_cons (okL_at oL hk) oS))
theorem a_aload_n {q : Fin 4} {k : Nat} {i : Nat} {x : Int} (hd : decode Y.2.1 pc = .ok (.aload_n q, 1)) (hi : (q : Nat) = i) (hk : L[k]? = some (i, .inr x)) (w : Wa G Y Z c0 s0 n μ (pc + 1) L (.inr x :: st)) : Wa G Y Z c0 s0 n μ pc L st := by
  intro p e s m args below meth c H locs ls C hA hS hl oL oS
  have w := w p e s m args below meth c H locs ls C hA hS hl oL (okS_cons trivial oS)
  have hl' := lv_at hl k (cvL_at hk)
  rw [List.map_cons] at w
  by_cases hx : x < 0
  · rw [cv_null hx] at hl' w
    exact lv_aload_nN C.1 C.2.1 hd hi hl' w
  · rw [cv_ref (by omega)] at hl' w
    exact lv_aload_n C.1 C.2.1 hd hi hl' w
theorem a_aload {k : Nat} {i : Nat} {x : Int} (hd : decode Y.2.1 pc = .ok (.aload i, 2)) (hk : L[k]? = some (i, .inr x)) (w : Wa G Y Z c0 s0 n μ (pc + 2) L (.inr x :: st)) : Wa G Y Z c0 s0 n μ pc L st := by
  intro p e s m args below meth c H locs ls C hA hS hl oL oS
  have w := w p e s m args below meth c H locs ls C hA hS hl oL (okS_cons trivial oS)
  have hl' := lv_at hl k (cvL_at hk)
  rw [List.map_cons] at w
  by_cases hx : x < 0
  · rw [cv_null hx] at hl' w
    exact lv_aloadN C.1 C.2.1 hd hl' w
  · rw [cv_ref (by omega)] at hl' w
    exact lv_aload C.1 C.2.1 hd hl' w
theorem cvL_filter (b0 i : Nat) (L : List (Nat × AV)) : (cvL b0 L).filter (fun q => !(q.1 == i) && !(q.1 + 1 == i && q.2.category == 2)) = cvL b0 (L.filter (fun q => !(q.1 == i))) := by
  unfold cvL
  rw [List.filter_map]
  congr 1
  apply List.filter_congr
  intro q _
  show (!(q.1 == i) && !(q.1 + 1 == i && (cv b0 q.2).category == 2)) = !(q.1 == i)
  rw [cv_cat]
  simp
theorem okL_put {i : Nat} {v : AV} {L : List (Nat × AV)} (hv : okV v) (o : okL L) : okL ((i, v) :: L.filter (fun q => !(q.1 == i))) := fun q hq => by
  rcases List.mem_cons.mp hq with rfl | hq
  · exact hv
  · exact o q (List.mem_filter.mp hq).1
/-- what a store leaves of the locals -/
abbrev putL (i : Nat) (v : AV) (L : List (Nat × AV)) : List (Nat × AV) := (i, v) :: L.filter (fun q => !(q.1 == i))
theorem a_istore_n {q : Fin 4} {i : Nat} {x : Int} (hd : decode Y.2.1 pc = .ok (.istore_n q, 1)) (hi : (q : Nat) = i) (hn : i < Y.2.2.1) (w : Wa G Y Z c0 s0 n μ (pc + 1) (putL i (.inl x) L) st) : Wa G Y Z c0 s0 n μ pc L (.inl x :: st) := by
  intro p e s m args below meth c H locs ls C hA hS hl oL oS
  exact lv_istore_n (lv' := cvL (gb G) (putL i (.inl x) L)) C.1 C.2.1 hd hi hl hn (by rw [cvL_filter]; rfl) (fun ls' hl' => w p e s m args below meth c H locs ls' C hA hS hl' (okL_put (okS_hd oS) oL) (okS_tl oS))
theorem a_istore {i : Nat} {x : Int} (hd : decode Y.2.1 pc = .ok (.istore i, 2)) (hn : i < Y.2.2.1) (w : Wa G Y Z c0 s0 n μ (pc + 2) (putL i (.inl x) L) st) : Wa G Y Z c0 s0 n μ pc L (.inl x :: st) := by
  intro p e s m args below meth c H locs ls C hA hS hl oL oS
  exact lv_istore (lv' := cvL (gb G) (putL i (.inl x) L)) C.1 C.2.1 hd hl hn (by rw [cvL_filter]; rfl) (fun ls' hl' => w p e s m args below meth c H locs ls' C hA hS hl' (okL_put (okS_hd oS) oL) (okS_tl oS))
theorem a_astore_n {q : Fin 4} {i : Nat} {x : Int} (hd : decode Y.2.1 pc = .ok (.astore_n q, 1)) (hi : (q : Nat) = i) (hn : i < Y.2.2.1) (w : Wa G Y Z c0 s0 n μ (pc + 1) (putL i (.inr x) L) st) : Wa G Y Z c0 s0 n μ pc L (.inr x :: st) := by
  intro p e s m args below meth c H locs ls C hA hS hl oL oS
  rw [List.map_cons]
  by_cases hx : x < 0
  · rw [cv_null hx]
    exact lv_astore_nN (lv' := cvL (gb G) (putL i (.inr x) L)) C.1 C.2.1 hd hi hl hn (by rw [cvL_filter, ← cv_null (b0 := gb G) hx]; rfl) (fun ls' hl' => w p e s m args below meth c H locs ls' C hA hS hl' (okL_put (okS_hd oS) oL) (okS_tl oS))
  · rw [cv_ref (by omega)]
    exact lv_astore_n (lv' := cvL (gb G) (putL i (.inr x) L)) C.1 C.2.1 hd hi hl hn (by rw [cvL_filter, ← cv_ref (b0 := gb G) (a := x) (by omega)]; rfl) (fun ls' hl' => w p e s m args below meth c H locs ls' C hA hS hl' (okL_put (okS_hd oS) oL) (okS_tl oS))
theorem a_astore {i : Nat} {x : Int} (hd : decode Y.2.1 pc = .ok (.astore i, 2)) (hn : i < Y.2.2.1) (w : Wa G Y Z c0 s0 n μ (pc + 2) (putL i (.inr x) L) st) : Wa G Y Z c0 s0 n μ pc L (.inr x :: st) := by
  intro p e s m args below meth c H locs ls C hA hS hl oL oS
  rw [List.map_cons]
  by_cases hx : x < 0
  · rw [cv_null hx]
    exact lv_astoreN (lv' := cvL (gb G) (putL i (.inr x) L)) C.1 C.2.1 hd hl hn (by rw [cvL_filter, ← cv_null (b0 := gb G) hx]; rfl) (fun ls' hl' => w p e s m args below meth c H locs ls' C hA hS hl' (okL_put (okS_hd oS) oL) (okS_tl oS))
  · rw [cv_ref (by omega)]
    exact lv_astore (lv' := cvL (gb G) (putL i (.inr x) L)) C.1 C.2.1 hd hl hn (by rw [cvL_filter, ← cv_ref (b0 := gb G) (a := x) (by omega)]; rfl) (fun ls' hl' => w p e s m args below meth c H locs ls' C hA hS hl' (okL_put (okS_hd oS) oL) (okS_tl oS))
theorem a_iinc {i k : Nat} {d x : Int} (hd : decode Y.2.1 pc = .ok (.iinc i d, 3)) (hk : L[k]? = some (i, .inl x)) (hr : inR (x + d)) (hn : i < Y.2.2.1) (w : Wa G Y Z c0 s0 n μ (pc + 3) (putL i (.inl (x + d)) L) st) : Wa G Y Z c0 s0 n μ pc L st := by
  intro p e s m args below meth c H locs ls C hA hS hl oL oS
  exact lv_iinc (v := I (x + d)) (lv' := cvL (gb G) (putL i (.inl (x + d)) L)) C.1 C.2.1 hd hl (k := k) (cvL_at hk) (by rw [I_add]; rfl) hn (by rw [cvL_filter]; rfl) (fun ls' hl' => w p e s m args below meth c H locs ls' C hA hS hl' (okL_put hr oL) oS)
/-- fewer locals, in another order: by their places -/
theorem a_sub {L' : List (Nat × AV)} (ks : List Nat) (hL : ks.filterMap (fun k => L[k]?) = L') (w : Wa G Y Z c0 s0 n μ pc L' st) : Wa G Y Z c0 s0 n μ pc L st := by
  intro p e s m args below meth c H locs ls C hA hS hl oL oS
  subst hL
  refine w p e s m args below meth c H locs ls C hA hS (lv_sub hl ks ?_) (fun q hq => ?_) oS
  · unfold lv_pick cvL
    rw [List.map_filterMap]
    congr 1
    funext k
    rw [List.getElem?_map]
  · obtain ⟨k, -, hk⟩ := List.mem_filterMap.mp hq
    exact oL q (List.mem_of_getElem? hk)
theorem a_iadd {x y : Int} (hd : decode Y.2.1 pc = .ok (.iadd, 1)) (hr : inR (x + y)) (w : Wa G Y Z c0 s0 n μ (pc + 1) L (.inl (x + y) :: st)) : Wa G Y Z c0 s0 n μ pc L (.inl y :: .inl x :: st) := by
  intro p e s m args below meth c H locs ls C hA hS hl oL oS
  have w := w p e s m args below meth c H locs ls C hA hS hl oL (okS_cons hr (okS_tl (okS_tl oS)))
  refine lv_iadd C.1 C.2.1 hd ?_
  rw [← I_add]
  exact w
theorem a_iaddw {x y : Int} (hd : decode Y.2.1 pc = .ok (.iadd, 1)) (w : Wa G Y Z c0 s0 n μ (pc + 1) L (.inl (wrap (x + y)) :: st)) : Wa G Y Z c0 s0 n μ pc L (.inl y :: .inl x :: st) := by
  intro p e s m args below meth c H locs ls C hA hS hl oL oS
  have w := w p e s m args below meth c H locs ls C hA hS hl oL (okS_cons (wrap_in _) (okS_tl (okS_tl oS)))
  refine lv_iadd C.1 C.2.1 hd ?_
  rw [← I_add, ← I_wrap]
  exact w
theorem a_isub {x y : Int} (hd : decode Y.2.1 pc = .ok (.isub, 1)) (hr : inR (x - y)) (w : Wa G Y Z c0 s0 n μ (pc + 1) L (.inl (x - y) :: st)) : Wa G Y Z c0 s0 n μ pc L (.inl y :: .inl x :: st) := by
  intro p e s m args below meth c H locs ls C hA hS hl oL oS
  have w := w p e s m args below meth c H locs ls C hA hS hl oL (okS_cons hr (okS_tl (okS_tl oS)))
  refine lv_isub C.1 C.2.1 hd ?_
  rw [← I_sub]
  exact w
theorem a_imul {x y : Int} (hd : decode Y.2.1 pc = .ok (.imul, 1)) (hr : inR (x * y)) (w : Wa G Y Z c0 s0 n μ (pc + 1) L (.inl (x * y) :: st)) : Wa G Y Z c0 s0 n μ pc L (.inl y :: .inl x :: st) := by
  intro p e s m args below meth c H locs ls C hA hS hl oL oS
  have w := w p e s m args below meth c H locs ls C hA hS hl oL (okS_cons hr (okS_tl (okS_tl oS)))
  refine lv_imul C.1 C.2.1 hd ?_
  rw [← I_mul]
  exact w
theorem a_imulw {x y : Int} (hd : decode Y.2.1 pc = .ok (.imul, 1)) (w : Wa G Y Z c0 s0 n μ (pc + 1) L (.inl (wrap (x * y)) :: st)) : Wa G Y Z c0 s0 n μ pc L (.inl y :: .inl x :: st) := by
  intro p e s m args below meth c H locs ls C hA hS hl oL oS
  have w := w p e s m args below meth c H locs ls C hA hS hl oL (okS_cons (wrap_in _) (okS_tl (okS_tl oS)))
  refine lv_imul C.1 C.2.1 hd ?_
  rw [← I_mul, ← I_wrap]
  exact w
end RowsA
