-- the law: its end (starting texts of the skeleton), rows of the judgement Wl: Wa with the script in local 0
/-! THE CLAIM OUT OF ONE WALK OF THE LAW'S BODY. Your part is whole_start (and what it stands on); all else here is the same for every law, but numbers. -/
def R_law : String := "ContactWaysLaw"
def lw_P (b : Addr) (xs : List Int32) (args : Array Value) (s : State) : Prop := args = #[.ref b] ∧ s.IntsAt b xs ∧ xs.length ≤ 3072 ∧ (Jvm.Cond.and given_1 narrow_1).before args s = true
def lw_Q (_ : Array Value) (s : State) (o : Outcome) (t : State) : Prop := o = .returned (some (.int 1)) ∧ Framed s o t [] 600000 7302250
def lw_Z (below : List Frame) (a : Array Value) (s : State) : State → Prop := fun t => ∃ o, t.status = .running ∧ Ended t below o ∧ lw_Q a s o t
/-- the law's own end, with 1 on the stack, nothing written that was there before, its room as the claim has it -/
theorem lw_ret {p : Program} {l : Launch} {e : Env} {s : State} {m : MethodId} {below : List Frame} {meth : Method} {c : Code} {b : Nat} (hx : p.tables.exec = Jvm.exec) (hb : c.code = code) (hr : meth.sig.returnType = ret) (hlocks : meth.locks = false) {pc : Nat} {H : Heap} {ls : Array Slot} (hdg : decode code pc = .ok (.ireturn, 1)) : W p l e room_1 s m #[Value.ref b] below meth c H [] 600000 7302250 (lw_Z below #[Value.ref b] s) (F0 m pc ls [.int 1]) := by
  intro T hT X
  obtain ⟨fs, hret, hrun, hended, hW, hframe⟩ := X.leave (v := some (.int 1)) (hlocks := hlocks) (fun h => by rw [hr] at h; cases h)
  have hmeth' : T.vm.method? m = some meth := X.method'
  refine ⟨T.setFrames fs, ?_, .returned (some (.int 1)), hrun, hended, rfl, ⟨_, rfl⟩, hW, hframe⟩
  jvm_step X.here [X.here.top, hx, hb, hdg, hmeth', hr, ret, narrow_b1]
  (try refine ⟨rfl, ?_⟩); (try refine ⟨rfl, ?_⟩)
  first | (intro acts; rw [hret _ acts rfl rfl rfl]) | rw [hret _ _ rfl rfl rfl]
  exact Steps.refl _
/-- what holds at the law's entry: the machine, the code, the tables' words (any of lw_tbl by 'hts w (by decide +kernel)'), the script of L ints xs at the cell b, what the Statement gives of the start (any of its parts by flat_of_before) -/
def lw_At (p : Program) (s : State) (m : MethodId) (meth : Method) (c : Code) (b L : Nat) (xs : Nat → Int32) : Prop :=
  p.tables.exec = Jvm.exec ∧ c.code = code ∧ meth.sig.returnType = ret ∧ c.maxLocals = 4 ∧ s.vm.findClass R_law = some m.cls ∧ (∀ w ∈ lw_tbl, w.before #[Value.ref b] s = true) ∧ va_X b L xs s s.heap ∧ b < s.heap.size ∧ meth.locks = false ∧ (Jvm.Cond.and given_1 narrow_1).before #[Value.ref b] s = true
def Zl (b Ls : Nat) (xs : Nat → Int32) (g : Nat) : ZT := (fun below args s => lw_Z below args s, fun args s => args = #[Value.ref b] ∧ va_X b Ls xs s s.heap ∧ b < s.heap.size ∧ s.heap.size = g)
/-- from here, with this memory, locals behind the script, and stack, the law comes to its end -/
def Wl (G : GT) (b Ls : Nat) (xs : Nat → Int32) (c0 s0 n : Nat) (μ : Mem) (pc : Nat) (L : List (Nat × AV)) (st : List AV) : Prop :=
  ∀ (p : Program) (e : Env) (s : State) (m : MethodId) (args : Array Value) (below : List Frame) (meth : Method) (c : Code) (H : Heap) (locs : List Loc) (ls : Array Slot),
    Cx G Y_L_law (Zl b Ls xs (gb G)) p s m args meth c → AH G n μ H → va_S (fun q : Nat => gb G ≤ q) s.heap H locs → lv_has ls 4 ((0, Value.ref b) :: cvL (gb G) L) → okL L → okS st →
    W p (gl G) e (rmOf Y_L_law) s m args below meth c H locs c0 s0 ((Zl b Ls xs (gb G)).1 below args s) (F0 m pc ls (st.map (cv (gb G))))
section RowsL
variable {G : GT} {b Ls : Nat} {xs : Nat → Int32} {c0 s0 n pc : Nat} {μ : Mem} {L : List (Nat × AV)} {st : List AV}
theorem lvl_at {k i : Nat} {v : AV} (h : L[k]? = some (i, v)) : ((0, Value.ref b) :: cvL (gb G) L)[k + 1]? = some (i, cv (gb G) v) := by
  rw [List.getElem?_cons_succ]
  exact cvL_at h
theorem l_wide {c1 s1 : Nat} (hc : c0 ≤ c1) (hs : s0 ≤ s1) (w : Wl G b Ls xs c1 s1 n μ pc L st) : Wl G b Ls xs c0 s0 n μ pc L st := by
  intro p e s m args below meth c H locs ls C hA hS hl oL oS
  exact W.widen hc hs (w p e s m args below meth c H locs ls C hA hS hl oL oS)
theorem l_iconst {k : Int} (hd : decode code pc = .ok (.iconst k, 1)) (hr : inR k) (w : Wl G b Ls xs c0 s0 n μ (pc + 1) L (.inl k :: st)) : Wl G b Ls xs c0 s0 n μ pc L st := by
  intro p e s m args below meth c H locs ls C hA hS hl oL oS
  exact lv_iconst C.1 C.2.1 hd rfl (w p e s m args below meth c H locs ls C hA hS hl oL (okS_cons hr oS))
theorem l_bipush {k : Int} (hd : decode code pc = .ok (.bipush k, 2)) (hr : inR k) (hk : (Int8.ofInt k).toInt32 = I k) (w : Wl G b Ls xs c0 s0 n μ (pc + 2) L (.inl k :: st)) : Wl G b Ls xs c0 s0 n μ pc L st := by
  intro p e s m args below meth c H locs ls C hA hS hl oL oS
  exact lv_bipush C.1 C.2.1 hd hk (w p e s m args below meth c H locs ls C hA hS hl oL (okS_cons hr oS))
theorem l_iload_n {q : Fin 4} {k : Nat} {i : Nat} {x : Int} (hd : decode code pc = .ok (.iload_n q, 1)) (hi : (q : Nat) = i) (hk : L[k]? = some (i, .inl x)) (w : Wl G b Ls xs c0 s0 n μ (pc + 1) L (.inl x :: st)) : Wl G b Ls xs c0 s0 n μ pc L st := by
  intro p e s m args below meth c H locs ls C hA hS hl oL oS
  exact lv_iload_n C.1 C.2.1 hd hi (lv_at hl (k + 1) (lvl_at hk)) (w p e s m args below meth c H locs ls C hA hS hl oL (okS_cons (okL_at oL hk) oS))
theorem l_aload_n {q : Fin 4} {k : Nat} {i : Nat} {x : Int} (hx : 0 ≤ x) (hd : decode code pc = .ok (.aload_n q, 1)) (hi : (q : Nat) = i) (hk : L[k]? = some (i, .inr x)) (w : Wl G b Ls xs c0 s0 n μ (pc + 1) L (.inr x :: st)) : Wl G b Ls xs c0 s0 n μ pc L st := by
  intro p e s m args below meth c H locs ls C hA hS hl oL oS
  have w := w p e s m args below meth c H locs ls C hA hS hl oL (okS_cons trivial oS)
  have hl' := lv_at hl (k + 1) (lvl_at hk)
  rw [cv_ref hx] at hl'
  rw [List.map_cons, cv_ref hx] at w
  exact lv_aload_n C.1 C.2.1 hd hi hl' w
theorem lv_swap {ls : Array Slot} {k : Nat} {x y : Nat × Value} {l : List (Nat × Value)} (h : lv_has ls k (x :: y :: l)) : lv_has ls k (y :: x :: l) := by
  refine ⟨h.1, h.2.1, fun q hq => h.2.2 q ?_⟩
  rcases List.mem_cons.mp hq with e | hq
  · exact List.mem_cons_of_mem _ (List.mem_cons.mpr (Or.inl e))
  · rcases List.mem_cons.mp hq with e | hq
    · exact List.mem_cons.mpr (Or.inl e)
    · exact List.mem_cons_of_mem _ (List.mem_cons_of_mem _ hq)
theorem lvl_filter {b0 i : Nat} {L : List (Nat × AV)} (h0 : (0 == i) = false) : ((0, Value.ref b) :: cvL b0 L).filter (fun q => !(q.1 == i) && !(q.1 + 1 == i && q.2.category == 2)) = (0, Value.ref b) :: cvL b0 (L.filter (fun q => !(q.1 == i))) := by
  rw [List.filter_cons_of_pos, cvL_filter]
  show (!((0 : Nat) == i) && !(0 + 1 == i && (1 == 2))) = true
  rw [h0]
  simp
theorem l_istore_n {q : Fin 4} {i : Nat} {x : Int} {L' : List (Nat × AV)} (hd : decode code pc = .ok (.istore_n q, 1)) (hi : (q : Nat) = i) (hn : i < 4) (h0 : (0 == i) = false) (hL : putL i (.inl x) L = L') (w : Wl G b Ls xs c0 s0 n μ (pc + 1) L' st) : Wl G b Ls xs c0 s0 n μ pc L (.inl x :: st) := by
  subst hL
  intro p e s m args below meth c H locs ls C hA hS hl oL oS
  exact lv_istore_n (lv' := (i, Value.int (I x)) :: (0, Value.ref b) :: cvL (gb G) (L.filter (fun q => !(q.1 == i)))) C.1 C.2.1 hd hi hl hn (by rw [lvl_filter h0]) (fun ls' hl' => w p e s m args below meth c H locs ls' C hA hS (lv_swap hl') (okL_put (okS_hd oS) oL) (okS_tl oS))
theorem l_astore_n {q : Fin 4} {i : Nat} {x : Int} {L' : List (Nat × AV)} (hx : 0 ≤ x) (hd : decode code pc = .ok (.astore_n q, 1)) (hi : (q : Nat) = i) (hn : i < 4) (h0 : (0 == i) = false) (hL : putL i (.inr x) L = L') (w : Wl G b Ls xs c0 s0 n μ (pc + 1) L' st) : Wl G b Ls xs c0 s0 n μ pc L (.inr x :: st) := by
  subst hL
  intro p e s m args below meth c H locs ls C hA hS hl oL oS
  rw [List.map_cons, cv_ref hx]
  exact lv_astore_n (lv' := (i, Value.ref (gb G + x.toNat)) :: (0, Value.ref b) :: cvL (gb G) (L.filter (fun q => !(q.1 == i)))) C.1 C.2.1 hd hi hl hn (by rw [lvl_filter h0]) (fun ls' hl' => w p e s m args below meth c H locs ls' C hA hS (by rw [← cv_ref (b0 := gb G) hx] at hl'; exact lv_swap hl') (okL_put (okS_hd oS) oL) (okS_tl oS))
theorem l_iinc {i k : Nat} {d x : Int} {L' : List (Nat × AV)} (hd : decode code pc = .ok (.iinc i d, 3)) (hk : L[k]? = some (i, .inl x)) (hr : inR (x + d)) (hn : i < 4) (h0 : (0 == i) = false) (hL : putL i (.inl (x + d)) L = L') (w : Wl G b Ls xs c0 s0 n μ (pc + 3) L' st) : Wl G b Ls xs c0 s0 n μ pc L st := by
  subst hL
  intro p e s m args below meth c H locs ls C hA hS hl oL oS
  exact lv_iinc (v := I (x + d)) (lv' := (i, Value.int (I (x + d))) :: (0, Value.ref b) :: cvL (gb G) (L.filter (fun q => !(q.1 == i)))) C.1 C.2.1 hd hl (k := k + 1) (lvl_at hk) (by rw [I_add]; rfl) hn (by rw [lvl_filter h0]) (fun ls' hl' => w p e s m args below meth c H locs ls' C hA hS (lv_swap hl') (okL_put hr oL) oS)
theorem l_goto {off : Int} {tgt : Nat} (hd : decode code pc = .ok (.goto off, 3)) (ht : (pc : Int) + off = (tgt : Int)) (w : Wl G b Ls xs c0 s0 n μ tgt L st) : Wl G b Ls xs c0 s0 n μ pc L st := by
  intro p e s m args below meth c H locs ls C hA hS hl oL oS
  exact lv_goto C.1 C.2.1 hd ht (w p e s m args below meth c H locs ls C hA hS hl oL oS)
theorem l_isub {x y : Int} (hd : decode code pc = .ok (.isub, 1)) (hr : inR (x - y)) (w : Wl G b Ls xs c0 s0 n μ (pc + 1) L (.inl (x - y) :: st)) : Wl G b Ls xs c0 s0 n μ pc L (.inl y :: .inl x :: st) := by
  intro p e s m args below meth c H locs ls C hA hS hl oL oS
  have w := w p e s m args below meth c H locs ls C hA hS hl oL (okS_cons hr (okS_tl (okS_tl oS)))
  refine lv_isub C.1 C.2.1 hd ?_
  rw [← I_sub]
  exact w
theorem l_iand {x y : Int} (hd : decode code pc = .ok (.iand, 1)) (w : Wl G b Ls xs c0 s0 n μ (pc + 1) L (.inl (iAnd x y) :: st)) : Wl G b Ls xs c0 s0 n μ pc L (.inl y :: .inl x :: st) := by
  intro p e s m args below meth c H locs ls C hA hS hl oL oS
  have w := w p e s m args below meth c H locs ls C hA hS hl oL (okS_cons (I_inR _) (okS_tl (okS_tl oS)))
  refine lv_iand C.1 C.2.1 hd ?_
  rw [← I_of (I x &&& I y)]
  exact w
theorem l_icmp_gt {x y off : Int} {tgt : Nat} (hd : decode code pc = .ok (.if_icmp .gt off, 3)) (ht : (pc : Int) + off = (tgt : Int)) (kt : y < x → Wl G b Ls xs c0 s0 n μ tgt L st) (kf : ¬ y < x → Wl G b Ls xs c0 s0 n μ (pc + 3) L st) : Wl G b Ls xs c0 s0 n μ pc L (.inl y :: .inl x :: st) := by
  intro p e s m args below meth c H locs ls C hA hS hl oL oS
  have hy : inR y := okS_hd oS
  have hx : inR x := okS_hd (okS_tl oS)
  have o := okS_tl (okS_tl oS)
  exact lv_icmp_gt C.1 C.2.1 hd ht (fun h => kt ((I_lt hy hx).mp h) p e s m args below meth c H locs ls C hA hS hl oL o) (fun h => kf (fun q => h ((I_lt hy hx).mpr q)) p e s m args below meth c H locs ls C hA hS hl oL o)
/-- both answers are the same -/
theorem l_same {x y off : Int} {tgt : Nat} (hd : decode code pc = .ok (.if_icmp .eq off, 3)) (ht : (pc : Int) + off = (tgt : Int)) (he : x = y) (kt : Wl G b Ls xs c0 s0 n μ tgt L st) : Wl G b Ls xs c0 s0 n μ pc L (.inl y :: .inl x :: st) := by
  intro p e s m args below meth c H locs ls C hA hS hl oL oS
  have o := okS_tl (okS_tl oS)
  exact lv_icmp_eq C.1 C.2.1 hd ht (fun h => kt p e s m args below meth c H locs ls C hA hS hl oL o) (fun h => absurd (by rw [he]) h)
theorem l_table {x dflt lo hi : Int} {offs : Array Int} {len tgt : Nat} (hd : decode code pc = .ok (.tableswitch dflt lo hi offs, len)) (ht : (pc : Int) + dflt = (tgt : Int))
    (kin : lo ≤ x → x ≤ hi → ∃ (off : Int) (t : Nat), offs[(x - lo).toNat]? = some off ∧ (pc : Int) + off = (t : Int) ∧ Wl G b Ls xs c0 s0 n μ t L st) (kout : (x < lo ∨ hi < x) → Wl G b Ls xs c0 s0 n μ tgt L st) : Wl G b Ls xs c0 s0 n μ pc L (.inl x :: st) := by
  intro p e s m args below meth c H locs ls C hA hS hl oL oS
  have hx : inR x := okS_hd oS
  have e0 := I_toInt hx
  by_cases h : x < lo ∨ hi < x
  · exact lv_tableOut C.1 C.2.1 hd (by rw [e0]; exact h) ht (kout h p _ s m args below meth c H locs ls C hA hS hl oL (okS_tl oS))
  · obtain ⟨off, t, h1, h2, w⟩ := kin (by omega) (by omega)
    exact lv_tableIn C.1 C.2.1 hd (by rw [e0]; omega) (by rw [e0]; omega) (by rw [e0]; exact h1) h2 (w p _ s m args below meth c H locs ls C hA hS hl oL (okS_tl oS))
theorem l_dup {v : AV} (hd : decode code pc = .ok (.dup, 1)) (w : Wl G b Ls xs c0 s0 n μ (pc + 1) L (v :: v :: st)) : Wl G b Ls xs c0 s0 n μ pc L (v :: st) := by
  intro p e s m args below meth c H locs ls C hA hS hl oL oS
  exact lv_dup C.1 C.2.1 hd (cv_cat _ _) (w p e s m args below meth c H locs ls C hA hS hl oL (okS_cons (okS_hd oS) oS))
/-- the script's length .. -/
theorem l_len (hLs : Ls < 2147483648) (d0 : decode code pc = .ok (.aload_n 0, 1)) (d1 : decode code (pc + 1) = .ok (.arraylength, 1)) (w : Wl G b Ls xs c0 s0 n μ (pc + 1 + 1) L (.inl Ls :: st)) : Wl G b Ls xs c0 s0 n μ pc L st := by
  intro p e s m args below meth c H locs ls C hA hS hl oL oS
  obtain ⟨C1, C2, C3, C4, C5, C6, C7, C8, C9, C10, C11, C12, C13, C14⟩ := id C
  have w := w p e s m args below meth c H locs ls C hA hS hl oL (okS_cons ⟨by omega, by omega⟩ oS)
  refine lv_aload_n C1 C2 d0 rfl (lv_at hl 0 rfl) ?_
  exact va_slen C1 C2 C12 C13 (by show ¬ gb G ≤ b; omega) hS d1 w
/-- .. and its numbers -/
theorem l_elem0 {k : Nat} {i : Int} (hk : L[k]? = some (3, .inl i)) (h0 : 0 ≤ i) (h1 : i < Ls) (d0 : decode code pc = .ok (.aload_n 0, 1)) (d1 : decode code (pc + 1) = .ok (.iload_n 3, 1)) (d2 : decode code (pc + 2) = .ok (.iaload, 1)) (w : Wl G b Ls xs c0 s0 n μ (pc + 3) L (.inl (xs i.toNat).toInt :: st)) : Wl G b Ls xs c0 s0 n μ pc L st := by
  intro p e s m args below meth c H locs ls C hA hS hl oL oS
  obtain ⟨C1, C2, C3, C4, C5, C6, C7, C8, C9, C10, C11, C12, C13, C14⟩ := id C
  have w := w p e s m args below meth c H locs ls C hA hS hl oL (okS_cons (I_inR _) oS)
  have hi : inR i := okL_at oL hk
  rw [List.map_cons] at w
  have w : W p (gl G) e (rmOf Y_L_law) s m args below meth c H locs c0 s0 ((Zl b Ls xs (gb G)).1 below args s) (F0 m (pc + 3) ls (Value.int (I (xs i.toNat).toInt) :: st.map (cv (gb G)))) := w
  rw [I_of, ← I_clamp hi] at w
  refine lv_aload_n C1 C2 d0 rfl (lv_at hl 0 rfl) ?_
  refine lv_iload_n C1 C2 d1 rfl (lv_at hl (k + 1) (lvl_at hk)) ?_
  exact va_sld C1 C2 C12 C13 (by show ¬ gb G ≤ b; omega) hS (I_in hi h0 h1) d2 w
theorem l_elem {k j : Nat} {i : Int} (hj : inR j) (hk : L[k]? = some (3, .inl i)) (h0 : 0 ≤ i) (h1 : i + j < Ls) (hLs : Ls < 2147483648) (d0 : decode code pc = .ok (.aload_n 0, 1)) (d1 : decode code (pc + 1) = .ok (.iload_n 3, 1)) (d2 : decode code (pc + 2) = .ok (.iconst (j : Nat), 1)) (d3 : decode code (pc + 3) = .ok (.iadd, 1)) (d4 : decode code (pc + 4) = .ok (.iaload, 1)) (w : Wl G b Ls xs c0 s0 n μ (pc + 5) L (.inl (xs (i + j).toNat).toInt :: st)) : Wl G b Ls xs c0 s0 n μ pc L st := by
  intro p e s m args below meth c H locs ls C hA hS hl oL oS
  obtain ⟨C1, C2, C3, C4, C5, C6, C7, C8, C9, C10, C11, C12, C13, C14⟩ := id C
  have w := w p e s m args below meth c H locs ls C hA hS hl oL (okS_cons (I_inR _) oS)
  have hi : inR (i + j) := ⟨by omega, by omega⟩
  rw [List.map_cons] at w
  have w : W p (gl G) e (rmOf Y_L_law) s m args below meth c H locs c0 s0 ((Zl b Ls xs (gb G)).1 below args s) (F0 m (pc + 5) ls (Value.int (I (xs (i + j).toNat).toInt) :: st.map (cv (gb G)))) := w
  rw [I_of, ← I_clamp hi] at w
  refine lv_aload_n C1 C2 d0 rfl (lv_at hl 0 rfl) ?_
  refine lv_iload_n C1 C2 d1 rfl (lv_at hl (k + 1) (lvl_at hk)) ?_
  refine lv_iconst C1 C2 d2 rfl ?_
  refine lv_iadd C1 C2 d3 ?_
  show W p (gl G) e (rmOf Y_L_law) s m args below meth c H locs c0 s0 ((Zl b Ls xs (gb G)).1 below args s) (F0 m (pc + 4) ls (Value.int (I i + I j) :: Value.ref b :: st.map (cv (gb G))))
  rw [← I_add]
  exact va_sld C1 C2 C12 C13 (by show ¬ gb G ≤ b; omega) hS (I_in hi (by omega) h1) d4 w
theorem l_new {ci N idx : Nat} {C : String} {T : u_T} (F : ClF ci C T N) (hty : ∀ k, k < N → smallT (tyC ci k)) (hd : decode code pc = .ok (.new idx, 3)) (hl : Cond.classLink RL idx C ∈ gT) (hi : Cond.instantiable C N ∈ gT) (hin : Cond.initialized C ∈ gT) (hsh : SH (n : Int) = (ci, N))
    (hc : c0 + 1 ≤ 600000) (hs : s0 + N ≤ 7302250) (hx : gx G n μ → gx G (n + 1) (nw μ n (objD ci))) (w : Wl G b Ls xs (c0 + 1) (s0 + N) (n + 1) (nw μ n (objD ci)) (pc + 3) L (.inr n :: st)) : Wl G b Ls xs c0 s0 n μ pc L st := by
  intro p e s m args below meth c H locs ls C0 hA hS hl' oL oS
  obtain ⟨C1, C2, C3, C4, C5, C6, C7, C8, C9⟩ := id C0
  have hKn := C9.1.1.1 ci _ F.2.1
  refine W.newcK C1 C2 C7 (C8 _ hl) (C8 _ hi) (C8 _ hin) rfl hd hc hs hKn.2.1 rfl fun H1 kC hkC e1 z1 o1 => ?_
  have hA' : AH G (n + 1) (nw μ n (objD ci)) H1 := by
    refine AH_nw hA ?_ z1 o1 (fun j hj => ?_) (hx hA.2.2.2)
    · rw [ent_obj hsh F.1, nw_at]
      have hb := u_born (tyC ci) C8 F.2.2.2.2 hKn hkC e1 F.2.2.1
      rw [hA.2.1] at hb
      refine ⟨_, F.2.1, hb.to (fun j hj => ?_)⟩
      have := (objD_ok ci j (hty j hj)).2
      simp only [vp_V, List.getD, List.getElem?_map, List.getElem?_range hj, Option.map_some, Option.getD_some]
      rw [objD_cv, this]
    · rw [hsh] at hj ⊢
      have : ety ci j = tyC ci j := if_pos F.1
      rw [this]
      exact (objD_ok ci j (hty j hj)).1
  have w := w p e s m args below meth c H1 locs ls C0 hA' ⟨Nat.le_trans hS.1 (by omega), fun x h1 h2 => (o1 x (Nat.lt_of_lt_of_le h1 hS.1)).trans (hS.2.1 x h1 h2), hS.2.2⟩ hl' oL (okS_cons trivial oS)
  rw [List.map_cons, cv_ref (by omega), Int.toNat_natCast, ← hA.2.1] at w
  exact w
theorem l_VI {Yc : MD} {idx : Nat} {stk As : List AV} {c1 s1 : Nat} {Q : Int → Nat → Mem → Prop} {ci N : Nat} {T : u_T} {a : Int} (hs : stk = As.reverse ++ .inr a :: st) (hd : decode code pc = .ok (.invokevirtual idx, 3)) (hlk : Cond.methodLink RL idx Yc.1 ∈ gT) (hm : MC Yc As.length) (hi : Cond.instanceMethod Yc.1 ∈ gT) (hse : Cond.selects Yc.1.cls Yc.1 Yc.1 ∈ gT)
    (hst : st.length ≤ 8) (hfit : fits2 Y_L_law Yc c0 s0) (hc : vwCl[ci]? = some (Yc.1.cls, T, N)) (hci : ci < 12) (ho : 0 ≤ a ∧ a < n ∧ SH a = (ci, N))
    (h : CI G Yc (.inr a :: As) n μ Q) (hc1 : c0 + Yc.2.2.2.2.2.2.1 = c1) (hs1 : s0 + Yc.2.2.2.2.2.2.2 = s1)
    (w : ∀ (x : Int) (n' : Nat) (ν : Mem), Q x n' ν → Wl G b Ls xs c1 s1 n' ν (pc + 3) L (.inl x :: st)) : Wl G b Ls xs c0 s0 n μ pc L stk := by
  subst hs
  subst hc1
  subst hs1
  intro p e s m args below meth c H locs ls C hA hS hl oL oS
  have o1 := okS_app oS
  refine va_calli (run_V (L := []) C hA (lv_sub hl [] rfl) hd hlk hm hi hse hst hfit hc hci ho (h (okS_cons trivial (okS_rev o1.1)))) hS (fun q _ h => h) (fun q h => h) (fun rr u t H1 locs1 ht hvm hw hB hz hk hS1 => ?_)
  obtain ⟨rfl, hr, hq⟩ := hw
  exact w u.1 u.2.1 u.2.2 hq p e s m args below meth c H1 locs1 ls C (by have hB : AH G u.2.1 u.2.2 t.heap := hB; rw [ht] at hB; exact hB) hS1 hl oL (okS_cons hr (okS_tl o1.2))
theorem l_N {Yc : MD} {idx : Nat} {stk As : List AV} {c1 s1 : Nat} {Q : Nat → Mem → Prop} {a : Int} (hs : stk = As.reverse ++ .inr a :: st) (hd : decode code pc = .ok (.invokespecial idx, 3)) (hlk : Cond.methodLink RL idx Yc.1 ∈ gT) (hm : MC Yc As.length) (hi : Cond.instanceMethod Yc.1 ∈ gT) (hn : Yc.1.name = "<init>") (hr : Yc.2.2.2.1 = none) (hst : st.length ≤ 8) (hfit : fits2 Y_L_law Yc c0 s0) (ha : 0 ≤ a)
    (h : CV G Yc (.inr a :: As) n μ Q) (hc1 : c0 + Yc.2.2.2.2.2.2.1 = c1) (hs1 : s0 + Yc.2.2.2.2.2.2.2 = s1)
    (w : ∀ (n' : Nat) (ν : Mem), Q n' ν → Wl G b Ls xs c1 s1 n' ν (pc + 3) L st) : Wl G b Ls xs c0 s0 n μ pc L stk := by
  subst hs
  subst hc1
  subst hs1
  intro p e s m args below meth c H locs ls C hA hS hl oL oS
  have o1 := okS_app oS
  refine va_callv (run_N (L := []) C hA (lv_sub hl [] rfl) hd hlk hm hi hn hr hst hfit ha (h (okS_cons trivial (okS_rev o1.1)))) hS (fun q _ h => h) (fun q h => h) (fun u t H1 locs1 ht hvm hw hB hz hk hS1 => ?_)
  exact w u.1 u.2 hw p e s m args below meth c H1 locs1 ls C (by have hB : AH G u.1 u.2 t.heap := hB; rw [ht] at hB; exact hB) hS1 hl oL (okS_tl o1.2)
/-- the end -/
theorem l_end (hd : decode code pc = .ok (.ireturn, 1)) (hc : c0 ≤ 600000) (hs : s0 ≤ 7302250) : Wl G b Ls xs c0 s0 n μ pc L [.inl 1] := by
  intro p e s m args below meth c H locs ls C hA hS hl oL oS
  obtain ⟨C1, C2, C3, C4, C5, C6, C7, C8, C9, C10, C11, C12, C13, C14⟩ := C
  subst C11
  refine va_forget (fun q hq => by rw [C14]; exact hS.2.2 q hq) (W.widen hc hs ?_)
  exact lw_ret C1 C2 C4 C5 hd
end RowsL

