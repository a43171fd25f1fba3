-- rows of the judgement Wa: branches, fields, arrays, making, returning, calling
section RowsB
variable {G : GT} {Y : MD} {Z : ZT} {c0 s0 n pc : Nat} {μ : Mem} {L : List (Nat × AV)} {st : List AV}
theorem tgt_eq {a b : Int} (h : a = b) : a = b := h
theorem a_goto {off : Int} {tgt : Nat} (hd : decode Y.2.1 pc = .ok (.goto off, 3)) (ht : (pc : Int) + off = (tgt : Int)) (w : Wa G Y Z c0 s0 n μ tgt L st) : Wa G Y Z c0 s0 n μ pc L st := by
  intro p e s m args below meth c H locs ls C hA hS hl oL oS
  exact lv_goto C.1 C.2.1 hd ht (w p e s m args below meth c H locs ls C hA hS hl oL oS)
theorem zero_in : inR 0 := ⟨by decide, by decide⟩
theorem a_if_eq {x off : Int} {tgt : Nat} (hd : decode Y.2.1 pc = .ok (.ifCond .eq off, 3)) (ht : (pc : Int) + off = (tgt : Int)) (kt : x = 0 → Wa G Y Z c0 s0 n μ tgt L st) (kf : ¬ x = 0 → Wa G Y Z c0 s0 n μ (pc + 3) L st) : Wa G Y Z c0 s0 n μ pc L (.inl x :: st) := by
  intro p e s m args below meth c H locs ls C hA hS hl oL oS
  have hx : inR x := okS_hd oS
  exact lv_if_eq C.1 C.2.1 hd ht (fun h => kt ((I_eq hx zero_in).mp h) p e s m args below meth c H locs ls C hA hS hl oL (okS_tl oS)) (fun h => kf (fun q => h ((I_eq hx zero_in).mpr q)) p e s m args below meth c H locs ls C hA hS hl oL (okS_tl oS))
theorem a_if_ne {x off : Int} {tgt : Nat} (hd : decode Y.2.1 pc = .ok (.ifCond .ne off, 3)) (ht : (pc : Int) + off = (tgt : Int)) (kt : ¬ x = 0 → Wa G Y Z c0 s0 n μ tgt L st) (kf : x = 0 → Wa G Y Z c0 s0 n μ (pc + 3) L st) : Wa G Y Z c0 s0 n μ pc L (.inl x :: st) := by
  intro p e s m args below meth c H locs ls C hA hS hl oL oS
  have hx : inR x := okS_hd oS
  exact lv_if_ne C.1 C.2.1 hd ht (fun h => kt (fun q => h ((I_eq hx zero_in).mpr q)) p e s m args below meth c H locs ls C hA hS hl oL (okS_tl oS)) (fun h => kf ((I_eq hx zero_in).mp h) p e s m args below meth c H locs ls C hA hS hl oL (okS_tl oS))
theorem a_if_lt {x off : Int} {tgt : Nat} (hd : decode Y.2.1 pc = .ok (.ifCond .lt off, 3)) (ht : (pc : Int) + off = (tgt : Int)) (kt : x < 0 → Wa G Y Z c0 s0 n μ tgt L st) (kf : ¬ x < 0 → Wa G Y Z c0 s0 n μ (pc + 3) L st) : Wa G Y Z c0 s0 n μ pc L (.inl x :: st) := by
  intro p e s m args below meth c H locs ls C hA hS hl oL oS
  have hx : inR x := okS_hd oS
  exact lv_if_lt C.1 C.2.1 hd ht (fun h => kt ((I_lt hx zero_in).mp h) p e s m args below meth c H locs ls C hA hS hl oL (okS_tl oS)) (fun h => kf (fun q => h ((I_lt hx zero_in).mpr q)) p e s m args below meth c H locs ls C hA hS hl oL (okS_tl oS))
theorem a_if_ge {x off : Int} {tgt : Nat} (hd : decode Y.2.1 pc = .ok (.ifCond .ge off, 3)) (ht : (pc : Int) + off = (tgt : Int)) (kt : 0 ≤ x → Wa G Y Z c0 s0 n μ tgt L st) (kf : ¬ 0 ≤ x → Wa G Y Z c0 s0 n μ (pc + 3) L st) : Wa G Y Z c0 s0 n μ pc L (.inl x :: st) := by
  intro p e s m args below meth c H locs ls C hA hS hl oL oS
  have hx : inR x := okS_hd oS
  exact lv_if_ge C.1 C.2.1 hd ht (fun h => kt ((I_le zero_in hx).mp h) p e s m args below meth c H locs ls C hA hS hl oL (okS_tl oS)) (fun h => kf (fun q => h ((I_le zero_in hx).mpr q)) p e s m args below meth c H locs ls C hA hS hl oL (okS_tl oS))
theorem a_if_gt {x off : Int} {tgt : Nat} (hd : decode Y.2.1 pc = .ok (.ifCond .gt off, 3)) (ht : (pc : Int) + off = (tgt : Int)) (kt : 0 < x → Wa G Y Z c0 s0 n μ tgt L st) (kf : ¬ 0 < x → Wa G Y Z c0 s0 n μ (pc + 3) L st) : Wa G Y Z c0 s0 n μ pc L (.inl x :: st) := by
  intro p e s m args below meth c H locs ls C hA hS hl oL oS
  have hx : inR x := okS_hd oS
  exact lv_if_gt C.1 C.2.1 hd ht (fun h => kt ((I_lt zero_in hx).mp h) p e s m args below meth c H locs ls C hA hS hl oL (okS_tl oS)) (fun h => kf (fun q => h ((I_lt zero_in hx).mpr q)) p e s m args below meth c H locs ls C hA hS hl oL (okS_tl oS))
theorem a_if_le {x off : Int} {tgt : Nat} (hd : decode Y.2.1 pc = .ok (.ifCond .le off, 3)) (ht : (pc : Int) + off = (tgt : Int)) (kt : x ≤ 0 → Wa G Y Z c0 s0 n μ tgt L st) (kf : ¬ x ≤ 0 → Wa G Y Z c0 s0 n μ (pc + 3) L st) : Wa G Y Z c0 s0 n μ pc L (.inl x :: st) := by
  intro p e s m args below meth c H locs ls C hA hS hl oL oS
  have hx : inR x := okS_hd oS
  exact lv_if_le C.1 C.2.1 hd ht (fun h => kt ((I_le hx zero_in).mp h) p e s m args below meth c H locs ls C hA hS hl oL (okS_tl oS)) (fun h => kf (fun q => h ((I_le hx zero_in).mpr q)) p e s m args below meth c H locs ls C hA hS hl oL (okS_tl oS))
theorem a_icmp_eq {x y off : Int} {tgt : Nat} (hd : decode Y.2.1 pc = .ok (.if_icmp .eq off, 3)) (ht : (pc : Int) + off = (tgt : Int)) (kt : x = y → Wa G Y Z c0 s0 n μ tgt L st) (kf : ¬ x = y → Wa G Y Z c0 s0 n μ (pc + 3) L st) : Wa G Y Z c0 s0 n μ pc L (.inl y :: .inl x :: st) := by
  intro p e s m args below meth c H locs ls C hA hS hl oL oS
  have hy : inR y := okS_hd oS
  have hx : inR x := okS_hd (okS_tl oS)
  have o := okS_tl (okS_tl oS)
  exact lv_icmp_eq C.1 C.2.1 hd ht (fun h => kt ((I_eq hx hy).mp h) p e s m args below meth c H locs ls C hA hS hl oL o) (fun h => kf (fun q => h ((I_eq hx hy).mpr q)) p e s m args below meth c H locs ls C hA hS hl oL o)
theorem a_icmp_ne {x y off : Int} {tgt : Nat} (hd : decode Y.2.1 pc = .ok (.if_icmp .ne off, 3)) (ht : (pc : Int) + off = (tgt : Int)) (kt : ¬ x = y → Wa G Y Z c0 s0 n μ tgt L st) (kf : x = y → Wa G Y Z c0 s0 n μ (pc + 3) L st) : Wa G Y Z c0 s0 n μ pc L (.inl y :: .inl x :: st) := by
  intro p e s m args below meth c H locs ls C hA hS hl oL oS
  have hy : inR y := okS_hd oS
  have hx : inR x := okS_hd (okS_tl oS)
  have o := okS_tl (okS_tl oS)
  exact lv_icmp_ne C.1 C.2.1 hd ht (fun h => kt (fun q => h ((I_eq hx hy).mpr q)) p e s m args below meth c H locs ls C hA hS hl oL o) (fun h => kf ((I_eq hx hy).mp h) p e s m args below meth c H locs ls C hA hS hl oL o)
theorem a_icmp_lt {x y off : Int} {tgt : Nat} (hd : decode Y.2.1 pc = .ok (.if_icmp .lt off, 3)) (ht : (pc : Int) + off = (tgt : Int)) (kt : x < y → Wa G Y Z c0 s0 n μ tgt L st) (kf : ¬ x < y → Wa G Y Z c0 s0 n μ (pc + 3) L st) : Wa G Y Z c0 s0 n μ pc L (.inl y :: .inl x :: st) := by
  intro p e s m args below meth c H locs ls C hA hS hl oL oS
  have hy : inR y := okS_hd oS
  have hx : inR x := okS_hd (okS_tl oS)
  have o := okS_tl (okS_tl oS)
  exact lv_icmp_lt C.1 C.2.1 hd ht (fun h => kt ((I_lt hx hy).mp h) p e s m args below meth c H locs ls C hA hS hl oL o) (fun h => kf (fun q => h ((I_lt hx hy).mpr q)) p e s m args below meth c H locs ls C hA hS hl oL o)
theorem a_icmp_ge {x y off : Int} {tgt : Nat} (hd : decode Y.2.1 pc = .ok (.if_icmp .ge off, 3)) (ht : (pc : Int) + off = (tgt : Int)) (kt : y ≤ x → Wa G Y Z c0 s0 n μ tgt L st) (kf : ¬ y ≤ x → Wa G Y Z c0 s0 n μ (pc + 3) L st) : Wa G Y Z c0 s0 n μ pc L (.inl y :: .inl x :: st) := by
  intro p e s m args below meth c H locs ls C hA hS hl oL oS
  have hy : inR y := okS_hd oS
  have hx : inR x := okS_hd (okS_tl oS)
  have o := okS_tl (okS_tl oS)
  exact lv_icmp_ge C.1 C.2.1 hd ht (fun h => kt ((I_le hy hx).mp h) p e s m args below meth c H locs ls C hA hS hl oL o) (fun h => kf (fun q => h ((I_le hy hx).mpr q)) p e s m args below meth c H locs ls C hA hS hl oL o)
theorem a_icmp_gt {x y off : Int} {tgt : Nat} (hd : decode Y.2.1 pc = .ok (.if_icmp .gt off, 3)) (ht : (pc : Int) + off = (tgt : Int)) (kt : y < x → Wa G Y Z c0 s0 n μ tgt L st) (kf : ¬ y < x → Wa G Y Z c0 s0 n μ (pc + 3) L st) : Wa G Y Z c0 s0 n μ pc L (.inl y :: .inl x :: st) := by
  intro p e s m args below meth c H locs ls C hA hS hl oL oS
  have hy : inR y := okS_hd oS
  have hx : inR x := okS_hd (okS_tl oS)
  have o := okS_tl (okS_tl oS)
  exact lv_icmp_gt C.1 C.2.1 hd ht (fun h => kt ((I_lt hy hx).mp h) p e s m args below meth c H locs ls C hA hS hl oL o) (fun h => kf (fun q => h ((I_lt hy hx).mpr q)) p e s m args below meth c H locs ls C hA hS hl oL o)
theorem a_icmp_le {x y off : Int} {tgt : Nat} (hd : decode Y.2.1 pc = .ok (.if_icmp .le off, 3)) (ht : (pc : Int) + off = (tgt : Int)) (kt : x ≤ y → Wa G Y Z c0 s0 n μ tgt L st) (kf : ¬ x ≤ y → Wa G Y Z c0 s0 n μ (pc + 3) L st) : Wa G Y Z c0 s0 n μ pc L (.inl y :: .inl x :: st) := by
  intro p e s m args below meth c H locs ls C hA hS hl oL oS
  have hy : inR y := okS_hd oS
  have hx : inR x := okS_hd (okS_tl oS)
  have o := okS_tl (okS_tl oS)
  exact lv_icmp_le C.1 C.2.1 hd ht (fun h => kt ((I_le hx hy).mp h) p e s m args below meth c H locs ls C hA hS hl oL o) (fun h => kf (fun q => h ((I_le hx hy).mpr q)) p e s m args below meth c H locs ls C hA hS hl oL o)
theorem a_ifnonnull {x off : Int} {tgt : Nat} (hd : decode Y.2.1 pc = .ok (.ifnonnull off, 3)) (ht : (pc : Int) + off = (tgt : Int)) (kt : ¬ x < 0 → Wa G Y Z c0 s0 n μ tgt L st) (kf : x < 0 → Wa G Y Z c0 s0 n μ (pc + 3) L st) : Wa G Y Z c0 s0 n μ pc L (.inr x :: st) := by
  intro p e s m args below meth c H locs ls C hA hS hl oL oS
  rw [List.map_cons]
  by_cases h : x < 0
  · rw [cv_null h]
    exact lv_ifnonnullN C.1 C.2.1 hd (kf h p e s m args below meth c H locs ls C hA hS hl oL (okS_tl oS))
  · rw [cv_ref (by omega)]
    exact lv_ifnonnull C.1 C.2.1 hd ht (kt h p e s m args below meth c H locs ls C hA hS hl oL (okS_tl oS))
/-- a tableswitch: the way of each number, and the way beside -/
theorem a_table {x dflt lo hi : Int} {offs : Array Int} {len tgt : Nat} (hd : decode Y.2.1 pc = .ok (.tableswitch dflt lo hi offs, len)) (ht : (pc : Int) + dflt = (tgt : Int))
    (kin : lo ≤ x → x ≤ hi → ∃ (off : Int) (t : Nat), offs[(x - lo).toNat]? = some off ∧ (pc : Int) + off = (t : Int) ∧ Wa G Y Z c0 s0 n μ t L st) (kout : (x < lo ∨ hi < x) → Wa G Y Z c0 s0 n μ tgt L st) : Wa G Y Z c0 s0 n μ pc L (.inl x :: st) := by
  intro p e s m args below meth c H locs ls C hA hS hl oL oS
  have hx : inR x := okS_hd oS
  have e := I_toInt hx
  by_cases h : x < lo ∨ hi < x
  · exact lv_tableOut C.1 C.2.1 hd (by rw [e]; exact h) ht (kout h p _ s m args below meth c H locs ls C hA hS hl oL (okS_tl oS))
  · obtain ⟨off, t, h1, h2, w⟩ := kin (by omega) (by omega)
    exact lv_tableIn C.1 C.2.1 hd (by rw [e]; omega) (by rw [e]; omega) (by rw [e]; exact h1) h2 (w p _ s m args below meth c H locs ls C hA hS hl oL (okS_tl oS))
theorem a_dup {v : AV} (hd : decode Y.2.1 pc = .ok (.dup, 1)) (w : Wa G Y Z c0 s0 n μ (pc + 1) L (v :: v :: st)) : Wa G Y Z c0 s0 n μ pc L (v :: st) := by
  intro p e s m args below meth c H locs ls C hA hS hl oL oS
  exact lv_dup C.1 C.2.1 hd (cv_cat _ _) (w p e s m args below meth c H locs ls C hA hS hl oL (okS_cons (okS_hd oS) oS))
theorem a_dup2 {v u : AV} (hd : decode Y.2.1 pc = .ok (.dup2, 1)) (w : Wa G Y Z c0 s0 n μ (pc + 1) L (v :: u :: v :: u :: st)) : Wa G Y Z c0 s0 n μ pc L (v :: u :: st) := by
  intro p e s m args below meth c H locs ls C hA hS hl oL oS
  exact lv_dup2_11 C.1 C.2.1 hd (cv_cat _ _) (cv_cat _ _) (w p e s m args below meth c H locs ls C hA hS hl oL (okS_cons (okS_hd oS) (okS_cons (okS_hd (okS_tl oS)) oS)))
theorem a_ldcw {idx : Nat} {k : Int} (hd : decode Y.2.1 pc = .ok (.ldc_w idx, 3)) (hc : Cond.constant Y.1.cls idx (I k) ∈ gT) (hr : inR k) (w : Wa G Y Z c0 s0 n μ (pc + 3) L (.inl k :: st)) : Wa G Y Z c0 s0 n μ pc L st := by
  intro p e s m args below meth c H locs ls C hA hS hl oL oS
  obtain ⟨C1, C2, C3, C4, C5, C6, C7, C8, C9⟩ := C
  exact lv_ldcw C1 C2 C7 (C8 _ hc) hd (w p e s m args below meth c H locs ls ⟨C1, C2, C3, C4, C5, C6, C7, C8, C9⟩ hA hS hl oL (okS_cons hr oS))
/-- bits, as the ints have them -/
def iAnd (x y : Int) : Int := (I x &&& I y).toInt
def iOr (x y : Int) : Int := (I x ||| I y).toInt
def iXor (x y : Int) : Int := (I x ^^^ I y).toInt
def iShl (x y : Int) : Int := (I x <<< (I y &&& 31)).toInt
def iShr (x y : Int) : Int := (I x >>> (I y &&& 31)).toInt
def iUshr (x y : Int) : Int := ((I x).toUInt32 >>> ((I y).toUInt32 &&& Int32.toUInt32 31)).toInt32.toInt
theorem a_iand {x y : Int} (hd : decode Y.2.1 pc = .ok (.iand, 1)) (w : Wa G Y Z c0 s0 n μ (pc + 1) L (.inl (iAnd x y) :: st)) : Wa G Y Z c0 s0 n μ pc L (.inl y :: .inl x :: st) := by
  intro p e s m args below meth c H locs ls C hA hS hl oL oS
  have w := w p e s m args below meth c H locs ls C hA hS hl oL (okS_cons (I_inR _) (okS_tl (okS_tl oS)))
  refine lv_iand C.1 C.2.1 hd ?_
  rw [← I_of (I x &&& I y)]
  exact w
theorem a_ior {x y : Int} (hd : decode Y.2.1 pc = .ok (.ior, 1)) (w : Wa G Y Z c0 s0 n μ (pc + 1) L (.inl (iOr x y) :: st)) : Wa G Y Z c0 s0 n μ pc L (.inl y :: .inl x :: st) := by
  intro p e s m args below meth c H locs ls C hA hS hl oL oS
  have w := w p e s m args below meth c H locs ls C hA hS hl oL (okS_cons (I_inR _) (okS_tl (okS_tl oS)))
  refine lv_ior C.1 C.2.1 hd ?_
  rw [← I_of (I x ||| I y)]
  exact w
theorem a_ixor {x y : Int} (hd : decode Y.2.1 pc = .ok (.ixor, 1)) (w : Wa G Y Z c0 s0 n μ (pc + 1) L (.inl (iXor x y) :: st)) : Wa G Y Z c0 s0 n μ pc L (.inl y :: .inl x :: st) := by
  intro p e s m args below meth c H locs ls C hA hS hl oL oS
  have w := w p e s m args below meth c H locs ls C hA hS hl oL (okS_cons (I_inR _) (okS_tl (okS_tl oS)))
  refine lv_ixor C.1 C.2.1 hd ?_
  rw [← I_of (I x ^^^ I y)]
  exact w
theorem a_ishl {x y : Int} (hd : decode Y.2.1 pc = .ok (.ishl, 1)) (w : Wa G Y Z c0 s0 n μ (pc + 1) L (.inl (iShl x y) :: st)) : Wa G Y Z c0 s0 n μ pc L (.inl y :: .inl x :: st) := by
  intro p e s m args below meth c H locs ls C hA hS hl oL oS
  have w := w p e s m args below meth c H locs ls C hA hS hl oL (okS_cons (I_inR _) (okS_tl (okS_tl oS)))
  refine lv_ishl C.1 C.2.1 hd ?_
  rw [← I_of (I x <<< (I y &&& 31))]
  exact w
theorem a_ishr {x y : Int} (hd : decode Y.2.1 pc = .ok (.ishr, 1)) (w : Wa G Y Z c0 s0 n μ (pc + 1) L (.inl (iShr x y) :: st)) : Wa G Y Z c0 s0 n μ pc L (.inl y :: .inl x :: st) := by
  intro p e s m args below meth c H locs ls C hA hS hl oL oS
  have w := w p e s m args below meth c H locs ls C hA hS hl oL (okS_cons (I_inR _) (okS_tl (okS_tl oS)))
  refine lv_ishr C.1 C.2.1 hd ?_
  rw [← I_of (I x >>> (I y &&& 31))]
  exact w
theorem a_iushr {x y : Int} (hd : decode Y.2.1 pc = .ok (.iushr, 1)) (w : Wa G Y Z c0 s0 n μ (pc + 1) L (.inl (iUshr x y) :: st)) : Wa G Y Z c0 s0 n μ pc L (.inl y :: .inl x :: st) := by
  intro p e s m args below meth c H locs ls C hA hS hl oL oS
  have w := w p e s m args below meth c H locs ls C hA hS hl oL (okS_cons (I_inR _) (okS_tl (okS_tl oS)))
  exact lv_iushr C.1 C.2.1 hd (I_of _).symm w
/-- division, of what is not negative by what is positive -/
theorem I_div {x y : Int} (hx : inR x) (hy : inR y) (h0 : 0 ≤ x) (h1 : 0 < y) : I x / I y = I (x / y) := by
  have hq : 0 ≤ x / y := Int.ediv_nonneg h0 (by omega)
  have hq2 : x / y ≤ x := Int.ediv_le_self y h0
  apply Int32.toInt_inj.mp
  rw [Int32.toInt_div_of_ne_right, I_toInt hx, I_toInt hy, I_toInt ⟨by omega, by omega⟩, Int.tdiv_eq_ediv_of_nonneg h0]
  intro h
  have := congrArg Int32.toInt h
  rw [I_toInt hy] at this
  have e : (-1 : Int32).toInt = -1 := by decide
  rw [e] at this
  omega
theorem a_idiv {x y : Int} (hd : decode Y.2.1 pc = .ok (.idiv, 1)) (h0 : 0 ≤ x) (h1 : 0 < y) (w : Wa G Y Z c0 s0 n μ (pc + 1) L (.inl (x / y) :: st)) : Wa G Y Z c0 s0 n μ pc L (.inl y :: .inl x :: st) := by
  intro p e s m args below meth c H locs ls C hA hS hl oL oS
  have hy : inR y := okS_hd oS
  have hx : inR x := okS_hd (okS_tl oS)
  have hq : 0 ≤ x / y := Int.ediv_nonneg h0 (by omega)
  have hq2 : x / y ≤ x := Int.ediv_le_self y h0
  have w := w p e s m args below meth c H locs ls C hA hS hl oL (okS_cons ⟨by omega, by omega⟩ (okS_tl (okS_tl oS)))
  refine lv_idiv C.1 C.2.1 hd (fun h => ?_) ?_
  · have := (I_eq hy zero_in).mp h
    omega
  · rw [I_div hx hy h0 h1]
    exact w
theorem a_irem {x y : Int} (hd : decode Y.2.1 pc = .ok (.irem, 1)) (h0 : 0 ≤ x) (h1 : 0 < y) (w : Wa G Y Z c0 s0 n μ (pc + 1) L (.inl (x % y) :: st)) : Wa G Y Z c0 s0 n μ pc L (.inl y :: .inl x :: st) := by
  intro p e s m args below meth c H locs ls C hA hS hl oL oS
  have hy : inR y := okS_hd oS
  have hx : inR x := okS_hd (okS_tl oS)
  have hq : 0 ≤ x % y := Int.emod_nonneg x (by omega)
  have hq2 : x % y < y := Int.emod_lt_of_pos x h1
  have w := w p e s m args below meth c H locs ls C hA hS hl oL (okS_cons ⟨by omega, by omega⟩ (okS_tl (okS_tl oS)))
  refine lv_irem C.1 C.2.1 hd (fun h => ?_) ?_
  · have := (I_eq hy zero_in).mp h
    omega
  · rw [I_div hx hy h0 h1, ← I_mul, ← I_sub, show x - x / y * y = x % y by rw [Int.emod_def, Int.mul_comm]]
    exact w
/-- what the memory is known to keep, for use on the way -/
theorem a_fx (w : gx G n μ → Wa G Y Z c0 s0 n μ pc L st) : Wa G Y Z c0 s0 n μ pc L st := by
  intro p e s m args below meth c H locs ls C hA hS hl oL oS
  exact w hA.2.2.2 p e s m args below meth c H locs ls C hA hS hl oL oS
theorem a_wide {c1 s1 : Nat} (hc : c0 ≤ c1) (hs : s0 ≤ s1) (w : Wa G Y Z c1 s1 n μ pc L st) : Wa G Y Z c0 s0 n μ pc L st := by
  intro p e s m args below meth c H locs ls C hA hS hl oL oS
  exact W.widen hc hs (w p e s m args below meth c H locs ls C hA hS hl oL oS)
end RowsB
