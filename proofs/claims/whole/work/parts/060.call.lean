-- contracts, entries, ends and calls
def QI (G : GT) (Q : Int → Nat → Mem → Prop) : Array Value → State → Outcome → State → Prop := va_Qi (S := Int × Nat × Mem) (fun r u => r = I u.1 ∧ inR u.1 ∧ Q u.1 u.2.1 u.2.2) (fun u t => AH G u.2.1 u.2.2 t.heap) (fun q : Nat => gb G ≤ q)
def QV (G : GT) (Q : Nat → Mem → Prop) : Array Value → State → Outcome → State → Prop := va_Qv (S := Nat × Mem) (fun u => Q u.1 u.2) (fun u t => AH G u.1 u.2 t.heap) (fun q : Nat => gb G ≤ q)
def QR (G : GT) (Q : Int → Nat → Mem → Prop) : Array Value → State → Outcome → State → Prop := va_Qr (S := Int × Nat × Mem) (fun u => 0 ≤ u.1 ∧ Q u.1 u.2.1 u.2.2) (fun u a t => a = gb G + u.1.toNat ∧ AH G u.2.1 u.2.2 t.heap) (fun q : Nat => gb G ≤ q)
def PreC (G : GT) (As : List AV) (n : Nat) (μ : Mem) : Array Value → State → Prop := fun v U => v = (As.map (cv (gb G))).toArray ∧ AH G n μ U.heap ∧ K0 G U
/-- the contract of a method at these arguments and this memory: it returns an int .. -/
def CI (G : GT) (Y : MD) (As : List AV) (n : Nat) (μ : Mem) (Q : Int → Nat → Mem → Prop) : Prop :=
  okS As → Met (gl G) Y.1 (wsM Y) (rmOf Y) (PreC G As n μ) (QI G Q) Y.2.2.2.2.2.2.1 Y.2.2.2.2.2.2.2 (fun q : Nat => gb G ≤ q)
/-- .. nothing .. -/
def CV (G : GT) (Y : MD) (As : List AV) (n : Nat) (μ : Mem) (Q : Nat → Mem → Prop) : Prop :=
  okS As → Met (gl G) Y.1 (wsM Y) (rmOf Y) (PreC G As n μ) (QV G Q) Y.2.2.2.2.2.2.1 Y.2.2.2.2.2.2.2 (fun q : Nat => gb G ≤ q)
/-- .. a cell -/
def CR (G : GT) (Y : MD) (As : List AV) (n : Nat) (μ : Mem) (Q : Int → Nat → Mem → Prop) : Prop :=
  okS As → Met (gl G) Y.1 (wsM Y) (rmOf Y) (PreC G As n μ) (QR G Q) Y.2.2.2.2.2.2.1 Y.2.2.2.2.2.2.2 (fun q : Nat => gb G ≤ q)
def ZI (G : GT) (Y : MD) (Q : Int → Nat → Mem → Prop) : ZT := (fun below args s => MQ below (QI G Q) args s Y.2.2.2.2.2.2.1 Y.2.2.2.2.2.2.2 (fun q : Nat => gb G ≤ q), fun _ _ => True)
def ZV (G : GT) (Y : MD) (Q : Nat → Mem → Prop) : ZT := (fun below args s => MQ below (QV G Q) args s Y.2.2.2.2.2.2.1 Y.2.2.2.2.2.2.2 (fun q : Nat => gb G ≤ q), fun _ _ => True)
def ZR (G : GT) (Y : MD) (Q : Int → Nat → Mem → Prop) : ZT := (fun below args s => MQ below (QR G Q) args s Y.2.2.2.2.2.2.1 Y.2.2.2.2.2.2.2 (fun q : Nat => gb G ≤ q), fun _ _ => True)
def argL : Nat → List AV → List (Nat × AV)
  | _, [] => []
  | i, v :: t => (i, v) :: argL (i + 1) t
theorem argL_lv (b0 i : Nat) (As : List AV) : lv_args i (As.map (cv b0)) = cvL b0 (argL i As) := by
  induction As generalizing i with
  | nil => rfl
  | cons v t ih =>
    rw [List.map_cons]
    show (i, cv b0 v) :: lv_args (if (cv b0 v).category = 2 then i + 2 else i + 1) (t.map (cv b0)) = (i, cv b0 v) :: cvL b0 (argL (i + 1) t)
    rw [if_neg (by rw [cv_cat]; decide), ih]
theorem argL_ok {i : Nat} {As : List AV} (h : okS As) : okL (argL i As) := by
  induction As generalizing i with
  | nil => intro q hq; cases hq
  | cons v t ih =>
    intro q hq
    rcases List.mem_cons.mp hq with rfl | hq
    · exact okS_hd h
    · exact ih (okS_tl h) q hq
theorem lg_len (b0 : Nat) (As : List AV) : (lg_sl (As.map (cv b0))).length = As.length := by
  induction As with
  | nil => rfl
  | cons v t ih =>
    unfold lg_sl at ih ⊢
    rw [List.map_cons, List.flatMap_cons, List.length_append, ih, if_neg (by rw [cv_cat]; decide), List.length_cons]
    simp only [List.length_cons, List.length_nil]
    omega
/-- the entry of a method, whatever it returns -/
theorem e_core {G : GT} {Y : MD} {As : List AV} {n : Nat} {μ : Mem} {Qc : Array Value → State → Outcome → State → Prop} {Z : ZT} (hZ : ∀ below args s, Z.1 below args s = MQ below Qc args s Y.2.2.2.2.2.2.1 Y.2.2.2.2.2.2.2 (fun q : Nat => gb G ≤ q)) (hZ2 : ∀ args s, Z.2 args s)
    (hp : plainName Y.1.cls = true) (hA : As.length ≤ Y.2.2.1) (ok : okS As) (w : Wa G Y Z 0 0 n μ 0 (argL 0 As) []) : Met (gl G) Y.1 (wsM Y) (rmOf Y) (PreC G As n μ) Qc Y.2.2.2.2.2.2.1 Y.2.2.2.2.2.2.2 (fun q : Nat => gb G ≤ q) := by
  refine Met.ofW (cc := Y.2.1) (maxL := Y.2.2.1) (ret := Y.2.2.2.1) hp rfl ?_
  intro p e s m args below meth c s₁ B hml hv
  obtain ⟨rfl, hH, hK⟩ := hv
  have hts := atoms_spec (ws := wsM Y) B.pre
  have hown : s.vm.findClass Y.1.cls = some m.cls := findClass_of_methodNamed B.named
  have hl := lv_entry (As.map (cv (gb G))) (n := Y.2.2.1) (by rw [lg_len]; exact hA)
  rw [argL_lv] at hl
  rw [lg_entry_eq, ← hZ]
  exact w p e s m _ below meth c s.heap [] _ ⟨B.exec, B.bytes, hml, B.returns, B.notSynchronized, fun h => (name_of_methodNamed B.named B.method).1.trans h, hown, fun w hw => hts w (List.mem_cons_of_mem _ hw), hK, by rw [hH.2.1]; exact Nat.le_add_right _ _, hZ2 _ _⟩ hH va_S.rf hl (argL_ok ok) (fun _ h => by cases h)
theorem e_I {G : GT} {Y : MD} {As : List AV} {n : Nat} {μ : Mem} {Q : Int → Nat → Mem → Prop} (hp : plainName Y.1.cls = true) (hA : As.length ≤ Y.2.2.1) (w : Wa G Y (ZI G Y Q) 0 0 n μ 0 (argL 0 As) []) : CI G Y As n μ Q :=
  fun ok => e_core (Z := ZI G Y Q) (fun _ _ _ => rfl) (fun _ _ => trivial) hp hA ok w
theorem e_V {G : GT} {Y : MD} {As : List AV} {n : Nat} {μ : Mem} {Q : Nat → Mem → Prop} (hp : plainName Y.1.cls = true) (hA : As.length ≤ Y.2.2.1) (w : Wa G Y (ZV G Y Q) 0 0 n μ 0 (argL 0 As) []) : CV G Y As n μ Q :=
  fun ok => e_core (Z := ZV G Y Q) (fun _ _ _ => rfl) (fun _ _ => trivial) hp hA ok w
theorem e_R {G : GT} {Y : MD} {As : List AV} {n : Nat} {μ : Mem} {Q : Int → Nat → Mem → Prop} (hp : plainName Y.1.cls = true) (hA : As.length ≤ Y.2.2.1) (w : Wa G Y (ZR G Y Q) 0 0 n μ 0 (argL 0 As) []) : CR G Y As n μ Q :=
  fun ok => e_core (Z := ZR G Y Q) (fun _ _ _ => rfl) (fun _ _ => trivial) hp hA ok w
section Ends
variable {G : GT} {Y : MD} {c0 s0 n pc : Nat} {μ : Mem} {L : List (Nat × AV)}
theorem a_iret {Q : Int → Nat → Mem → Prop} {v : Int} (hd : decode Y.2.1 pc = .ok (.ireturn, 1)) (hr : Y.2.2.2.1 = some .int) (hc : c0 ≤ Y.2.2.2.2.2.2.1) (hs : s0 ≤ Y.2.2.2.2.2.2.2) (q : Q v n μ) : Wa G Y (ZI G Y Q) c0 s0 n μ pc L [.inl v] := by
  intro p e s m args below meth c H locs ls C hA hS hl oL oS
  obtain ⟨C1, C2, C3, C4, C5, C6, C7, C8, C9⟩ := C
  refine W.widen hc hs ?_
  exact W.iret C1 C2 (C4.trans hr) (fun t ht hW => ⟨⟨_, (v, n, μ), rfl, ⟨rfl, okS_hd oS, q⟩, by show AH G n μ t.heap; rw [ht]; exact hA⟩, hS.F ht⟩) hS.2.2 hd C5
theorem a_zret {Q : Int → Nat → Mem → Prop} {v : Int} (hd : decode Y.2.1 pc = .ok (.ireturn, 1)) (hr : Y.2.2.2.1 = some .boolean) (hc : c0 ≤ Y.2.2.2.2.2.2.1) (hs : s0 ≤ Y.2.2.2.2.2.2.2) (hv : v = 0 ∨ v = 1) (q : Q v n μ) : Wa G Y (ZI G Y Q) c0 s0 n μ pc L [.inl v] := by
  intro p e s m args below meth c H locs ls C hA hS hl oL oS
  obtain ⟨C1, C2, C3, C4, C5, C6, C7, C8, C9⟩ := C
  refine W.widen hc hs ?_
  exact W.zret C1 C2 (C4.trans hr) (by rcases hv with rfl | rfl <;> rfl) (fun t ht hW => ⟨⟨_, (v, n, μ), rfl, ⟨rfl, okS_hd oS, q⟩, by show AH G n μ t.heap; rw [ht]; exact hA⟩, hS.F ht⟩) hS.2.2 hd C5
theorem a_ret {Q : Nat → Mem → Prop} (hd : decode Y.2.1 pc = .ok (.return_, 1)) (hr : Y.2.2.2.1 = none) (hc : c0 ≤ Y.2.2.2.2.2.2.1) (hs : s0 ≤ Y.2.2.2.2.2.2.2) (q : Q n μ) : Wa G Y (ZV G Y Q) c0 s0 n μ pc L [] := by
  intro p e s m args below meth c H locs ls C hA hS hl oL oS
  obtain ⟨C1, C2, C3, C4, C5, C6, C7, C8, C9⟩ := C
  refine W.widen hc hs ?_
  exact W.vret C1 C2 (C4.trans hr) (fun t ht hW => ⟨⟨(n, μ), rfl, q, by show AH G n μ t.heap; rw [ht]; exact hA⟩, hS.F ht⟩) hS.2.2 hd C5
theorem a_aret {Q : Int → Nat → Mem → Prop} {a : Int} {C : String} (hd : decode Y.2.1 pc = .ok (.areturn, 1)) (hr : Y.2.2.2.1 = some (.object C)) (hc : c0 ≤ Y.2.2.2.2.2.2.1) (hs : s0 ≤ Y.2.2.2.2.2.2.2) (ha : 0 ≤ a) (q : Q a n μ) : Wa G Y (ZR G Y Q) c0 s0 n μ pc L [.inr a] := by
  intro p e s m args below meth c H locs ls C hA hS hl oL oS
  obtain ⟨C1, C2, C3, C4, C5, C6, C7, C8, C9⟩ := C
  refine W.widen hc hs ?_
  rw [List.map_cons, cv_ref ha]
  exact W.aret C1 C2 (C4.trans hr) (Or.inl ⟨_, rfl⟩) (Or.inr ⟨_, rfl⟩) (fun t ht hW => ⟨⟨(a, n, μ), _, rfl, ⟨ha, q⟩, ⟨rfl, by show AH G n μ t.heap; rw [ht]; exact hA⟩⟩, hS.F ht⟩) hS.2.2 hd C5
end Ends
theorem good_gT : ∀ w ∈ gT, (w.onTables && w.keeps) = true ∨ ∃ ty, w = .arrayClass ty := fun _ h => good_of_word (List.mem_filter.mp h).2
theorem gIn {l : List Cond} (h : ∀ w ∈ l, w ∈ gT) : GoodIn gT l := fun w hw => ⟨h w hw, good_gT w (h w hw)⟩
/-- what the tables say of a method -/
def MC (Y : MD) (k : Nat) : Prop := Cond.code Y.1 Y.2.1 Y.2.2.1 Y.2.2.2.1 ∈ gT ∧ Cond.initialized Y.1.cls ∈ gT ∧ (Y.1.cls ≠ "java/lang/invoke/MethodHandle" ∧ Y.1.cls ≠ "java/lang/invoke/VarHandle" ∧ (parseMethodDescriptor Y.1.desc).map (fun d => d.parameters.length) = some k)
theorem ws_in {Y : MD} {k : Nat} (h : MC Y k) : ∀ w ∈ wsM Y, w ∈ gT := fun w hw => by
  rcases List.mem_cons.mp hw with rfl | hw
  · exact h.1
  · exact hw
theorem pre_blind (G : GT) (As : List AV) (n : Nat) (μ : Mem) : FrameBlind (PreC G As n μ) := fun a U g mk h => ⟨h.1, h.2.1, K0_calling g mk a h.2.2⟩
/-- the callee's room fits -/
def fits2 (Y Yc : MD) (c0 s0 : Nat) : Prop := (Yc.2.2.2.2.1 + 1 ≤ Y.2.2.2.2.1 ∧ 8 + (Yc.2.2.1 + 11) + Yc.2.2.2.2.2.1 ≤ Y.2.2.2.2.2.1) ∧ (c0 + Yc.2.2.2.2.2.2.1 ≤ Y.2.2.2.2.2.2.1 ∧ s0 + Yc.2.2.2.2.2.2.2 ≤ Y.2.2.2.2.2.2.2)
section CallsA
variable {G : GT} {Y Yc : MD} {Z : ZT} {c0 s0 n pc idx : Nat} {μ : Mem} {L : List (Nat × AV)} {st stk As : List AV}
theorem okS_app {a b : List AV} (h : okS (a ++ b)) : okS a ∧ okS b := ⟨fun v hv => h v (List.mem_append_left _ hv), fun v hv => h v (List.mem_append_right _ hv)⟩
theorem okS_rev {a : List AV} (h : okS a.reverse) : okS a := fun v hv => h v (List.mem_reverse.mpr hv)
theorem map_arr {b0 : Nat} {a : Int} {As : List AV} (ha : 0 ≤ a) : ((.inr a :: As).map (cv b0)).toArray = (Value.ref (b0 + a.toNat) :: As.map (cv b0)).toArray := by
  rw [List.map_cons, cv_ref ha]
/-- the run of a virtual call -/
theorem run_V {Qc : Array Value → State → Outcome → State → Prop} {ci N : Nat} {T : u_T} {a : Int} {p : Program} {e : Env} {s : State} {m : MethodId} {args : Array Value} {below : List Frame} {meth : Method} {c : Code} {H : Heap} {locs : List Loc} {ls : Array Slot}
    (C : Cx G Y Z p s m args meth c) (hA : AH G n μ H) (hl' : lv_has ls Y.2.2.1 (cvL (gb G) L)) (hd : decode Y.2.1 pc = .ok (.invokevirtual idx, 3)) (hlk : Cond.methodLink Y.1.cls idx Yc.1 ∈ gT) (hm : MC Yc As.length) (hi : Cond.instanceMethod Yc.1 ∈ gT) (hse : Cond.selects Yc.1.cls Yc.1 Yc.1 ∈ gT)
    (hst : st.length ≤ 8) (hfit : fits2 Y Yc c0 s0) (hc : vwCl[ci]? = some (Yc.1.cls, T, N)) (hci : ci < 12) (ho : 0 ≤ a ∧ a < n ∧ SH a = (ci, N)) (hM : Met (gl G) Yc.1 (wsM Yc) (rmOf Yc) (PreC G (.inr a :: As) n μ) Qc Yc.2.2.2.2.2.2.1 Yc.2.2.2.2.2.2.2 (fun q : Nat => gb G ≤ q)) :
    va_Run p (gl G) e (rmOf Y) s m args below meth c H locs c0 s0 Yc.2.2.2.2.2.2.1 Yc.2.2.2.2.2.2.2 (F0 m pc ls ((As.reverse ++ .inr a :: st).map (cv (gb G)))) (st.map (cv (gb G))) (Qc ((.inr a :: As).map (cv (gb G))).toArray) (fun q : Nat => gb G ≤ q) := by
  obtain ⟨C1, C2, C3, C4, C5, C6, C7, C8, C9⟩ := C
  obtain ⟨h0, h1, h2⟩ := ho
  have en := a_toNat h0
  have hsh : SH (a.toNat : Int) = (ci, N) := by rw [en]; exact h2
  have he := world_at (cA := gA G) (b0 := gb G) (μ := μ) (i := a.toNat) (n := n) (by omega)
  rw [ent_obj hsh hci] at he
  rw [map_arr h0]
  refine va_runV (C := Yc.1.cls) (own := Y.1.cls) (index := idx) (As := As.map (cv (gb G))) (Ts := gT) (n := As.length) ⟨C1, C2, C3, C7, C8⟩ hM
    (cwV As.length C8 (gIn (fun w hw => ?_)) rfl rfl rfl ⟨rfl, hm.2.2⟩ hfit.1) ⟨pre_blind _ _ _ _, va_recv C9.1.1 hA.1 hc he, fun U hU hW => ⟨?_, by rw [hU]; exact hA, K0_warm hW C9.1⟩⟩ rfl (List.length_map _) hl'.1 ?_ ?_ hd hfit.2
  · unfold wsV at hw
    rcases List.mem_append.mp hw with hw | hw
    · simp only [List.mem_cons, List.not_mem_nil, or_false] at hw
      rcases hw with rfl | rfl | rfl | rfl
      · exact hlk
      · exact hi
      · exact hse
      · exact hm.2.1
    · exact ws_in hm w hw
  · rw [map_arr h0]
  · rw [List.map_append, List.map_reverse, List.map_cons, cv_ref h0]
  · rw [cat_sum]
    show 2 * 0 + st.length ≤ 8
    omega
theorem run_S {Qc : Array Value → State → Outcome → State → Prop} {p : Program} {e : Env} {s : State} {m : MethodId} {args : Array Value} {below : List Frame} {meth : Method} {c : Code} {H : Heap} {locs : List Loc} {ls : Array Slot}
    (C : Cx G Y Z p s m args meth c) (hA : AH G n μ H) (hl' : lv_has ls Y.2.2.1 (cvL (gb G) L)) (hd : decode Y.2.1 pc = .ok (.invokestatic idx, 3)) (hlk : Cond.methodLink Y.1.cls idx Yc.1 ∈ gT) (hm : MC Yc As.length) (hi : Cond.static Yc.1 ∈ gT)
    (hst : st.length ≤ 8) (hfit : fits2 Y Yc c0 s0) (hM : Met (gl G) Yc.1 (wsM Yc) (rmOf Yc) (PreC G As n μ) Qc Yc.2.2.2.2.2.2.1 Yc.2.2.2.2.2.2.2 (fun q : Nat => gb G ≤ q)) :
    va_Run p (gl G) e (rmOf Y) s m args below meth c H locs c0 s0 Yc.2.2.2.2.2.2.1 Yc.2.2.2.2.2.2.2 (F0 m pc ls ((As.reverse ++ st).map (cv (gb G)))) (st.map (cv (gb G))) (Qc (As.map (cv (gb G))).toArray) (fun q : Nat => gb G ≤ q) := by
  obtain ⟨C1, C2, C3, C4, C5, C6, C7, C8, C9⟩ := C
  have ok : ∀ w ∈ gT, w.before args s = true := C8
  refine va_runS (own := Y.1.cls) (index := idx) (As := As.map (cv (gb G))) (Ts := gT) (n := As.length) ⟨C1, C2, C3, C7, C8⟩ hM
    ⟨callB_of As.length C8 (gIn (ws_in hm)) rfl rfl rfl (ok _ hm.2.1) (ok _ hlk) hm.2.2 hfit.1, ok _ hi⟩ ⟨pre_blind _ _ _ _, fun U hU hW => ⟨rfl, by rw [hU]; exact hA, K0_warm hW C9.1⟩⟩ rfl (List.length_map _) hl'.1 ?_ ?_ hd hfit.2
  · rw [List.map_append, List.map_reverse]
  · rw [cat_sum]
    show 2 * 0 + st.length ≤ 8
    omega
theorem run_SN {Qc : Array Value → State → Outcome → State → Prop} {host : String} {p : Program} {e : Env} {s : State} {m : MethodId} {args : Array Value} {below : List Frame} {meth : Method} {c : Code} {H : Heap} {locs : List Loc} {ls : Array Slot}
    (C : Cx G Y Z p s m args meth c) (hA : AH G n μ H) (hl' : lv_has ls Y.2.2.1 (cvL (gb G) L)) (hd : decode Y.2.1 pc = .ok (.invokestatic idx, 3)) (hlk : Cond.methodLinkNest Y.1.cls idx Yc.1 host ∈ gN) (hm : MC Yc As.length) (hi : Cond.static Yc.1 ∈ gT)
    (hst : st.length ≤ 8) (hfit : fits2 Y Yc c0 s0) (hM : Met (gl G) Yc.1 (wsM Yc) (rmOf Yc) (PreC G As n μ) Qc Yc.2.2.2.2.2.2.1 Yc.2.2.2.2.2.2.2 (fun q : Nat => gb G ≤ q)) :
    va_Run p (gl G) e (rmOf Y) s m args below meth c H locs c0 s0 Yc.2.2.2.2.2.2.1 Yc.2.2.2.2.2.2.2 (F0 m pc ls ((As.reverse ++ st).map (cv (gb G)))) (st.map (cv (gb G))) (Qc (As.map (cv (gb G))).toArray) (fun q : Nat => gb G ≤ q) := by
  obtain ⟨C1, C2, C3, C4, C5, C6, C7, C8, C9⟩ := C
  have ok : ∀ w ∈ gT, w.before args s = true := C8
  refine va_runSN (own := Y.1.cls) (host := host) (index := idx) (As := As.map (cv (gb G))) (Ts := gT) (n := As.length) ⟨C1, C2, C3, C7, C8⟩ hM
    ⟨va_cnB As.length C8 (gIn (ws_in hm)) rfl rfl rfl (C9.1.2.1 _ hlk) (ok _ hm.2.1) hm.2.2 hfit.1, ok _ hi, trivial⟩ ⟨pre_blind _ _ _ _, fun U hU hW => ⟨rfl, by rw [hU]; exact hA, K0_warm hW C9.1⟩⟩ rfl (List.length_map _) hl'.1 ?_ ?_ hd hfit.2
  · rw [List.map_append, List.map_reverse]
  · rw [cat_sum]
    show 2 * 0 + st.length ≤ 8
    omega
theorem run_N {Qc : Array Value → State → Outcome → State → Prop} {a : Int} {p : Program} {e : Env} {s : State} {m : MethodId} {args : Array Value} {below : List Frame} {meth : Method} {c : Code} {H : Heap} {locs : List Loc} {ls : Array Slot}
    (C : Cx G Y Z p s m args meth c) (hA : AH G n μ H) (hl' : lv_has ls Y.2.2.1 (cvL (gb G) L)) (hd : decode Y.2.1 pc = .ok (.invokespecial idx, 3)) (hlk : Cond.methodLink Y.1.cls idx Yc.1 ∈ gT) (hm : MC Yc As.length) (hi : Cond.instanceMethod Yc.1 ∈ gT) (hn : Yc.1.name = "<init>") (hr : Yc.2.2.2.1 = none)
    (hst : st.length ≤ 8) (hfit : fits2 Y Yc c0 s0) (ha : 0 ≤ a) (hM : Met (gl G) Yc.1 (wsM Yc) (rmOf Yc) (PreC G (.inr a :: As) n μ) Qc Yc.2.2.2.2.2.2.1 Yc.2.2.2.2.2.2.2 (fun q : Nat => gb G ≤ q)) :
    va_Run p (gl G) e (rmOf Y) s m args below meth c H locs c0 s0 Yc.2.2.2.2.2.2.1 Yc.2.2.2.2.2.2.2 (F0 m pc ls ((As.reverse ++ .inr a :: st).map (cv (gb G)))) (st.map (cv (gb G))) (Qc ((.inr a :: As).map (cv (gb G))).toArray) (fun q : Nat => gb G ≤ q) := by
  obtain ⟨C1, C2, C3, C4, C5, C6, C7, C8, C9⟩ := C
  have ok : ∀ w ∈ gT, w.before args s = true := C8
  rw [map_arr ha]
  refine va_runI (own := Y.1.cls) (index := idx) (As := As.map (cv (gb G))) (Ts := gT) (n := As.length) (b := gb G + a.toNat) ⟨C1, C2, C3, C7, C8⟩ hM
    (cwI As.length C8 (gIn (ws_in hm)) (by unfold wsM; rw [hr]) rfl rfl (ok _ hm.2.1) (ok _ hlk) (ok _ hi) hn hm.2.2 hfit.1) ⟨pre_blind _ _ _ _, fun U hU hW => ⟨?_, by rw [hU]; exact hA, K0_warm hW C9.1⟩⟩ rfl (List.length_map _) hl'.1 ?_ ?_ hd hfit.2
  · rw [map_arr ha]
  · rw [List.map_append, List.map_reverse, List.map_cons, cv_ref ha]
  · rw [cat_sum]
    show 2 * 0 + st.length ≤ 8
    omega
section Behind
variable {p : Program} {e : Env} {s : State} {m : MethodId} {args : Array Value} {below : List Frame} {meth : Method} {c : Code} {H : Heap} {locs : List Loc} {ls : Array Slot} {st0 : List Value} {mc ms : Nat} {av0 : Array Value}
theorem beh_I {Q : Int → Nat → Mem → Prop} (C : Cx G Y Z p s m args meth c) (hS : va_S (fun q : Nat => gb G ≤ q) s.heap H locs) (hl : lv_has ls Y.2.2.1 (cvL (gb G) L)) (oL : okL L) (oS : okS st)
    (r : va_Run p (gl G) e (rmOf Y) s m args below meth c H locs c0 s0 mc ms (F0 m pc ls st0) (st.map (cv (gb G))) (QI G Q av0) (fun q : Nat => gb G ≤ q))
    (w : ∀ (x : Int) (n' : Nat) (ν : Mem), Q x n' ν → Wa G Y Z (c0 + mc) (s0 + ms) n' ν (pc + 3) L (.inl x :: st)) : W p (gl G) e (rmOf Y) s m args below meth c H locs c0 s0 (Z.1 below args s) (F0 m pc ls st0) := by
  refine va_calli r hS (fun q _ h => h) (fun q h => h) (fun rr u t H1 locs1 ht hvm hw hB hz hk hS1 => ?_)
  obtain ⟨rfl, hr, hq⟩ := hw
  have w := w u.1 u.2.1 u.2.2 hq p e s m args below meth c H1 locs1 ls C (by have hB : AH G u.2.1 u.2.2 t.heap := hB; rw [ht] at hB; exact hB) hS1 hl oL (okS_cons hr oS)
  exact w
theorem beh_V {Q : Nat → Mem → Prop} (C : Cx G Y Z p s m args meth c) (hS : va_S (fun q : Nat => gb G ≤ q) s.heap H locs) (hl : lv_has ls Y.2.2.1 (cvL (gb G) L)) (oL : okL L) (oS : okS st)
    (r : va_Run p (gl G) e (rmOf Y) s m args below meth c H locs c0 s0 mc ms (F0 m pc ls st0) (st.map (cv (gb G))) (QV G Q av0) (fun q : Nat => gb G ≤ q))
    (w : ∀ (n' : Nat) (ν : Mem), Q n' ν → Wa G Y Z (c0 + mc) (s0 + ms) n' ν (pc + 3) L st) : W p (gl G) e (rmOf Y) s m args below meth c H locs c0 s0 (Z.1 below args s) (F0 m pc ls st0) := by
  refine va_callv r hS (fun q _ h => h) (fun q h => h) (fun u t H1 locs1 ht hvm hw hB hz hk hS1 => ?_)
  exact w u.1 u.2 hw p e s m args below meth c H1 locs1 ls C (by have hB : AH G u.1 u.2 t.heap := hB; rw [ht] at hB; exact hB) hS1 hl oL oS
theorem beh_R {Q : Int → Nat → Mem → Prop} (C : Cx G Y Z p s m args meth c) (hS : va_S (fun q : Nat => gb G ≤ q) s.heap H locs) (hl : lv_has ls Y.2.2.1 (cvL (gb G) L)) (oL : okL L) (oS : okS st)
    (r : va_Run p (gl G) e (rmOf Y) s m args below meth c H locs c0 s0 mc ms (F0 m pc ls st0) (st.map (cv (gb G))) (QR G Q av0) (fun q : Nat => gb G ≤ q))
    (w : ∀ (x : Int) (n' : Nat) (ν : Mem), 0 ≤ x → Q x n' ν → Wa G Y Z (c0 + mc) (s0 + ms) n' ν (pc + 3) L (.inr x :: st)) : W p (gl G) e (rmOf Y) s m args below meth c H locs c0 s0 (Z.1 below args s) (F0 m pc ls st0) := by
  refine va_callr r hS (fun q _ h => h) (fun q h => h) (fun u ra t H1 locs1 ht hvm hw hB hz hk hS1 => ?_)
  obtain ⟨h0, hq⟩ := hw
  obtain ⟨rfl, hB⟩ := hB
  have w := w u.1 u.2.1 u.2.2 h0 hq p e s m args below meth c H1 locs1 ls C (by rw [ht] at hB; exact hB) hS1 hl oL (okS_cons trivial oS)
  rw [List.map_cons, cv_ref h0] at w
  exact w
end Behind
theorem c_VI {c1 s1 : Nat} {Q : Int → Nat → Mem → Prop} {ci N : Nat} {T : u_T} {a : Int} (hs : stk = As.reverse ++ .inr a :: st) (hd : decode Y.2.1 pc = .ok (.invokevirtual idx, 3)) (hlk : Cond.methodLink Y.1.cls idx Yc.1 ∈ gT) (hm : MC Yc As.length) (hi : Cond.instanceMethod Yc.1 ∈ gT) (hse : Cond.selects Yc.1.cls Yc.1 Yc.1 ∈ gT)
    (hst : st.length ≤ 8) (hfit : fits2 Y Yc c0 s0) (hc : vwCl[ci]? = some (Yc.1.cls, T, N)) (hci : ci < 12) (ho : gx G n μ → 0 ≤ a ∧ a < n ∧ SH a = (ci, N))
    (h : CI G Yc (.inr a :: As) n μ Q) (hc1 : c0 + Yc.2.2.2.2.2.2.1 = c1) (hs1 : s0 + Yc.2.2.2.2.2.2.2 = s1)
    (w : ∀ (x : Int) (n' : Nat) (ν : Mem), Q x n' ν → Wa G Y Z c1 s1 n' ν (pc + 3) L (.inl x :: st)) : Wa G Y Z c0 s0 n μ pc L stk := by
  subst hs
  subst hc1
  subst hs1
  intro p e s m args below meth c H locs ls C hA hS hl oL oS
  have o1 := okS_app oS
  exact beh_I C hS hl oL (okS_tl o1.2) (run_V C hA hl hd hlk hm hi hse hst hfit hc hci (ho hA.2.2.2) (h (okS_cons trivial (okS_rev o1.1)))) w
theorem c_VV {c1 s1 : Nat} {Q : Nat → Mem → Prop} {ci N : Nat} {T : u_T} {a : Int} (hs : stk = As.reverse ++ .inr a :: st) (hd : decode Y.2.1 pc = .ok (.invokevirtual idx, 3)) (hlk : Cond.methodLink Y.1.cls idx Yc.1 ∈ gT) (hm : MC Yc As.length) (hi : Cond.instanceMethod Yc.1 ∈ gT) (hse : Cond.selects Yc.1.cls Yc.1 Yc.1 ∈ gT)
    (hst : st.length ≤ 8) (hfit : fits2 Y Yc c0 s0) (hc : vwCl[ci]? = some (Yc.1.cls, T, N)) (hci : ci < 12) (ho : gx G n μ → 0 ≤ a ∧ a < n ∧ SH a = (ci, N))
    (h : CV G Yc (.inr a :: As) n μ Q) (hc1 : c0 + Yc.2.2.2.2.2.2.1 = c1) (hs1 : s0 + Yc.2.2.2.2.2.2.2 = s1)
    (w : ∀ (n' : Nat) (ν : Mem), Q n' ν → Wa G Y Z c1 s1 n' ν (pc + 3) L st) : Wa G Y Z c0 s0 n μ pc L stk := by
  subst hs
  subst hc1
  subst hs1
  intro p e s m args below meth c H locs ls C hA hS hl oL oS
  have o1 := okS_app oS
  exact beh_V C hS hl oL (okS_tl o1.2) (run_V C hA hl hd hlk hm hi hse hst hfit hc hci (ho hA.2.2.2) (h (okS_cons trivial (okS_rev o1.1)))) w
theorem c_VR {c1 s1 : Nat} {Q : Int → Nat → Mem → Prop} {ci N : Nat} {T : u_T} {a : Int} (hs : stk = As.reverse ++ .inr a :: st) (hd : decode Y.2.1 pc = .ok (.invokevirtual idx, 3)) (hlk : Cond.methodLink Y.1.cls idx Yc.1 ∈ gT) (hm : MC Yc As.length) (hi : Cond.instanceMethod Yc.1 ∈ gT) (hse : Cond.selects Yc.1.cls Yc.1 Yc.1 ∈ gT)
    (hst : st.length ≤ 8) (hfit : fits2 Y Yc c0 s0) (hc : vwCl[ci]? = some (Yc.1.cls, T, N)) (hci : ci < 12) (ho : gx G n μ → 0 ≤ a ∧ a < n ∧ SH a = (ci, N))
    (h : CR G Yc (.inr a :: As) n μ Q) (hc1 : c0 + Yc.2.2.2.2.2.2.1 = c1) (hs1 : s0 + Yc.2.2.2.2.2.2.2 = s1)
    (w : ∀ (x : Int) (n' : Nat) (ν : Mem), 0 ≤ x → Q x n' ν → Wa G Y Z c1 s1 n' ν (pc + 3) L (.inr x :: st)) : Wa G Y Z c0 s0 n μ pc L stk := by
  subst hs
  subst hc1
  subst hs1
  intro p e s m args below meth c H locs ls C hA hS hl oL oS
  have o1 := okS_app oS
  exact beh_R C hS hl oL (okS_tl o1.2) (run_V C hA hl hd hlk hm hi hse hst hfit hc hci (ho hA.2.2.2) (h (okS_cons trivial (okS_rev o1.1)))) w
theorem c_SI {c1 s1 : Nat} {Q : Int → Nat → Mem → Prop} (hs : stk = As.reverse ++ st) (hd : decode Y.2.1 pc = .ok (.invokestatic idx, 3)) (hlk : Cond.methodLink Y.1.cls idx Yc.1 ∈ gT) (hm : MC Yc As.length) (hi : Cond.static Yc.1 ∈ gT) (hst : st.length ≤ 8) (hfit : fits2 Y Yc c0 s0)
    (h : CI G Yc As n μ Q) (hc1 : c0 + Yc.2.2.2.2.2.2.1 = c1) (hs1 : s0 + Yc.2.2.2.2.2.2.2 = s1)
    (w : ∀ (x : Int) (n' : Nat) (ν : Mem), Q x n' ν → Wa G Y Z c1 s1 n' ν (pc + 3) L (.inl x :: st)) : Wa G Y Z c0 s0 n μ pc L stk := by
  subst hs
  subst hc1
  subst hs1
  intro p e s m args below meth c H locs ls C hA hS hl oL oS
  have o1 := okS_app oS
  exact beh_I C hS hl oL o1.2 (run_S C hA hl hd hlk hm hi hst hfit (h (okS_rev o1.1))) w
theorem c_SV {c1 s1 : Nat} {Q : Nat → Mem → Prop} (hs : stk = As.reverse ++ st) (hd : decode Y.2.1 pc = .ok (.invokestatic idx, 3)) (hlk : Cond.methodLink Y.1.cls idx Yc.1 ∈ gT) (hm : MC Yc As.length) (hi : Cond.static Yc.1 ∈ gT) (hst : st.length ≤ 8) (hfit : fits2 Y Yc c0 s0)
    (h : CV G Yc As n μ Q) (hc1 : c0 + Yc.2.2.2.2.2.2.1 = c1) (hs1 : s0 + Yc.2.2.2.2.2.2.2 = s1)
    (w : ∀ (n' : Nat) (ν : Mem), Q n' ν → Wa G Y Z c1 s1 n' ν (pc + 3) L st) : Wa G Y Z c0 s0 n μ pc L stk := by
  subst hs
  subst hc1
  subst hs1
  intro p e s m args below meth c H locs ls C hA hS hl oL oS
  have o1 := okS_app oS
  exact beh_V C hS hl oL o1.2 (run_S C hA hl hd hlk hm hi hst hfit (h (okS_rev o1.1))) w
theorem c_SNI {c1 s1 : Nat} {Q : Int → Nat → Mem → Prop} {host : String} (hs : stk = As.reverse ++ st) (hd : decode Y.2.1 pc = .ok (.invokestatic idx, 3)) (hlk : Cond.methodLinkNest Y.1.cls idx Yc.1 host ∈ gN) (hm : MC Yc As.length) (hi : Cond.static Yc.1 ∈ gT) (hst : st.length ≤ 8) (hfit : fits2 Y Yc c0 s0)
    (h : CI G Yc As n μ Q) (hc1 : c0 + Yc.2.2.2.2.2.2.1 = c1) (hs1 : s0 + Yc.2.2.2.2.2.2.2 = s1)
    (w : ∀ (x : Int) (n' : Nat) (ν : Mem), Q x n' ν → Wa G Y Z c1 s1 n' ν (pc + 3) L (.inl x :: st)) : Wa G Y Z c0 s0 n μ pc L stk := by
  subst hs
  subst hc1
  subst hs1
  intro p e s m args below meth c H locs ls C hA hS hl oL oS
  have o1 := okS_app oS
  exact beh_I C hS hl oL o1.2 (run_SN C hA hl hd hlk hm hi hst hfit (h (okS_rev o1.1))) w
theorem c_N {c1 s1 : Nat} {Q : Nat → Mem → Prop} {a : Int} (hs : stk = As.reverse ++ .inr a :: st) (hd : decode Y.2.1 pc = .ok (.invokespecial idx, 3)) (hlk : Cond.methodLink Y.1.cls idx Yc.1 ∈ gT) (hm : MC Yc As.length) (hi : Cond.instanceMethod Yc.1 ∈ gT) (hn : Yc.1.name = "<init>") (hr : Yc.2.2.2.1 = none) (hst : st.length ≤ 8) (hfit : fits2 Y Yc c0 s0) (ha : 0 ≤ a)
    (h : CV G Yc (.inr a :: As) n μ Q) (hc1 : c0 + Yc.2.2.2.2.2.2.1 = c1) (hs1 : s0 + Yc.2.2.2.2.2.2.2 = s1)
    (w : ∀ (n' : Nat) (ν : Mem), Q n' ν → Wa G Y Z c1 s1 n' ν (pc + 3) L st) : Wa G Y Z c0 s0 n μ pc L stk := by
  subst hs
  subst hc1
  subst hs1
  intro p e s m args below meth c H locs ls C hA hS hl oL oS
  have o1 := okS_app oS
  exact beh_V C hS hl oL (okS_tl o1.2) (run_N C hA hl hd hlk hm hi hn hr hst hfit ha (h (okS_cons trivial (okS_rev o1.1)))) w
end CallsA
theorem CI_mono {G : GT} {Y : MD} {As : List AV} {n : Nat} {μ : Mem} {Q Q' : Int → Nat → Mem → Prop} (h : CI G Y As n μ Q) (hQ : ∀ x n' ν, Q x n' ν → Q' x n' ν) : CI G Y As n μ Q' :=
  fun ok => MetFree.mono (h ok) (fun _ _ h => h) (fun _ _ _ _ _ h => h) (fun a st o t _ h => ⟨by obtain ⟨⟨⟨r, u, h1, ⟨h2, h3, h4⟩, h5⟩, h6⟩, -⟩ := h; exact ⟨⟨r, u, h1, ⟨h2, h3, hQ _ _ _ h4⟩, h5⟩, h6⟩, h.2⟩)
theorem CV_mono {G : GT} {Y : MD} {As : List AV} {n : Nat} {μ : Mem} {Q Q' : Nat → Mem → Prop} (h : CV G Y As n μ Q) (hQ : ∀ n' ν, Q n' ν → Q' n' ν) : CV G Y As n μ Q' :=
  fun ok => MetFree.mono (h ok) (fun _ _ h => h) (fun _ _ _ _ _ h => h) (fun a st o t _ h => ⟨by obtain ⟨⟨⟨u, h1, h4, h5⟩, h6⟩, -⟩ := h; exact ⟨⟨u, h1, hQ _ _ h4, h5⟩, h6⟩, h.2⟩)
theorem CR_mono {G : GT} {Y : MD} {As : List AV} {n : Nat} {μ : Mem} {Q Q' : Int → Nat → Mem → Prop} (h : CR G Y As n μ Q) (hQ : ∀ x n' ν, Q x n' ν → Q' x n' ν) : CR G Y As n μ Q' :=
  fun ok => MetFree.mono (h ok) (fun _ _ h => h) (fun _ _ _ _ _ h => h) (fun a st o t _ h => ⟨by obtain ⟨⟨⟨u, r, h1, ⟨h2, h4⟩, h5⟩, h6⟩, -⟩ := h; exact ⟨⟨u, r, h1, ⟨h2, hQ _ _ _ h4⟩, h5⟩, h6⟩, h.2⟩)
def setX (G : GT) (f : Nat → Mem → Prop) : GT := (G.1, G.2.1, G.2.2.1, G.2.2.2.1, f)
/-- from a contract over more knowledge, where that is at hand -/
theorem CI_gx {G : GT} {f : Nat → Mem → Prop} {Y : MD} {As : List AV} {n : Nat} {μ : Mem} {Q : Int → Nat → Mem → Prop} (hg : gx G = fun _ _ => True) (hf : f n μ) (h : CI (setX G f) Y As n μ Q) : CI G Y As n μ (fun r n' ν => Q r n' ν ∧ f n' ν) :=
  fun ok => MetFree.mono (h ok) (fun a s h => ⟨h.1, ⟨h.2.1.1, h.2.1.2.1, h.2.1.2.2.1, hf⟩, h.2.2⟩) (fun _ _ _ _ _ h => h) (fun a st o t _ h => ⟨by
    obtain ⟨⟨⟨r, u, h1, ⟨h2, h3, h4⟩, h5⟩, h6⟩, -⟩ := h
    have h5 : AH (setX G f) u.2.1 u.2.2 t.heap := h5
    exact ⟨⟨r, u, h1, ⟨h2, h3, h4, h5.2.2.2⟩, ⟨h5.1, h5.2.1, h5.2.2.1, by rw [hg]; trivial⟩⟩, h6⟩, h.2⟩)
theorem CV_gx {G : GT} {f : Nat → Mem → Prop} {Y : MD} {As : List AV} {n : Nat} {μ : Mem} {Q : Nat → Mem → Prop} (hg : gx G = fun _ _ => True) (hf : f n μ) (h : CV (setX G f) Y As n μ Q) : CV G Y As n μ (fun n' ν => Q n' ν ∧ f n' ν) :=
  fun ok => MetFree.mono (h ok) (fun a s h => ⟨h.1, ⟨h.2.1.1, h.2.1.2.1, h.2.1.2.2.1, hf⟩, h.2.2⟩) (fun _ _ _ _ _ h => h) (fun a st o t _ h => ⟨by
    obtain ⟨⟨⟨u, h1, h4, h5⟩, h6⟩, -⟩ := h
    have h5 : AH (setX G f) u.1 u.2 t.heap := h5
    exact ⟨⟨u, h1, ⟨h4, h5.2.2.2⟩, ⟨h5.1, h5.2.1, h5.2.2.1, by rw [hg]; trivial⟩⟩, h6⟩, h.2⟩)
/-- the rest of the room -/
def fitsB (Y Yc : MD) : Bool := Nat.ble (Yc.2.2.2.2.1 + 1) Y.2.2.2.2.1 && Nat.ble (8 + (Yc.2.2.1 + 11) + Yc.2.2.2.2.2.1) Y.2.2.2.2.2.1
theorem fits_of {Y Yc : MD} {c0 s0 : Nat} (h : fitsB Y Yc = true) (hc : c0 + Yc.2.2.2.2.2.2.1 ≤ Y.2.2.2.2.2.2.1) (hs : s0 + Yc.2.2.2.2.2.2.2 ≤ Y.2.2.2.2.2.2.2) : fits2 Y Yc c0 s0 := by
  unfold fitsB at h
  rw [Bool.and_eq_true] at h
  exact ⟨⟨Nat.le_of_ble_eq_true h.1, Nat.le_of_ble_eq_true h.2⟩, hc, hs⟩
section RowsE
variable {G : GT} {Y : MD} {Z : ZT} {c0 s0 n pc : Nat} {μ : Mem} {L L' : List (Nat × AV)} {st : List AV}
theorem b_istore_n {q : Fin 4} {i : Nat} {x : Int} (ks : List Nat) (hd : decode Y.2.1 pc = .ok (.istore_n q, 1)) (hi : (q : Nat) = i) (hn : i < Y.2.2.1) (hL : ks.filterMap (fun k => (putL i (.inl x) L)[k]?) = L') (w : Wa G Y Z c0 s0 n μ (pc + 1) L' st) : Wa G Y Z c0 s0 n μ pc L (.inl x :: st) := a_istore_n hd hi hn (a_sub ks hL w)
theorem b_istore {i : Nat} {x : Int} (ks : List Nat) (hd : decode Y.2.1 pc = .ok (.istore i, 2)) (hn : i < Y.2.2.1) (hL : ks.filterMap (fun k => (putL i (.inl x) L)[k]?) = L') (w : Wa G Y Z c0 s0 n μ (pc + 2) L' st) : Wa G Y Z c0 s0 n μ pc L (.inl x :: st) := a_istore hd hn (a_sub ks hL w)
theorem b_astore_n {q : Fin 4} {i : Nat} {x : Int} (ks : List Nat) (hd : decode Y.2.1 pc = .ok (.astore_n q, 1)) (hi : (q : Nat) = i) (hn : i < Y.2.2.1) (hL : ks.filterMap (fun k => (putL i (.inr x) L)[k]?) = L') (w : Wa G Y Z c0 s0 n μ (pc + 1) L' st) : Wa G Y Z c0 s0 n μ pc L (.inr x :: st) := a_astore_n hd hi hn (a_sub ks hL w)
theorem b_astore {i : Nat} {x : Int} (ks : List Nat) (hd : decode Y.2.1 pc = .ok (.astore i, 2)) (hn : i < Y.2.2.1) (hL : ks.filterMap (fun k => (putL i (.inr x) L)[k]?) = L') (w : Wa G Y Z c0 s0 n μ (pc + 2) L' st) : Wa G Y Z c0 s0 n μ pc L (.inr x :: st) := a_astore hd hn (a_sub ks hL w)
theorem b_iinc {i k : Nat} {d x : Int} (ks : List Nat) (hd : decode Y.2.1 pc = .ok (.iinc i d, 3)) (hk : L[k]? = some (i, .inl x)) (hr : inR (x + d)) (hn : i < Y.2.2.1) (hL : ks.filterMap (fun k => (putL i (.inl (x + d)) L)[k]?) = L') (w : Wa G Y Z c0 s0 n μ (pc + 3) L' st) : Wa G Y Z c0 s0 n μ pc L st := a_iinc hd hk hr hn (a_sub ks hL w)
end RowsE
