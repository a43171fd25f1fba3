-- what holds of the bundles at any time
/-- the chain of a bundle's hops -/
def CH (of s : Int → Int) (b : Int) : Prop :=
  (it s b 7 ≠ -9 → it s b 4 ≠ it s b 1) ∧
  (0 < it s b 9 → nodeP of s b ≠ it s b 1 ∧ it s b 5 ≠ 1 ∧ (it s b 7 ≠ -9 → arrT of s b (it s b 7) (it s b 8) ≤ hopB s b 0) ∧ arrT of s b (hopC s b (it s b 9 - 1)) (hopB s b (it s b 9 - 1)) ≤ it s b 2 ∧ cf of (hopC s b (it s b 9 - 1)) 1 = it s b 1) ∧
  ∀ k, 0 ≤ k → k + 1 < it s b 9 → cf of (hopC s b k) 1 ≠ it s b 1 ∧ arrT of s b (hopC s b k) (hopB s b k) ≤ hopB s b (k + 1)
/-- where now stands to them -/
def NW (of s : Int → Int) (b : Int) : Prop :=
  (it s b 7 ≠ -9 → it s b 8 < s 0 ∧ s 0 < arrT of s b (it s b 7) (it s b 8)) ∧ (it s b 7 = -9 → 0 < it s b 9 → s 0 ≤ hopB s b 0)
/-- no tick is taken twice -/
def DJ (of s : Int → Int) : Prop := ∀ b o c t, 0 ≤ b → b < s 2 → 0 ≤ o → o < s 2 → b ≠ o → 0 ≤ c → TKb of s b c t → ¬ TKb of s o c t
def SV (nd cn : Int) (of s : Int → Int) : Prop := SR nd cn of s ∧ (∀ b, 0 ≤ b → b < s 2 → CH of s b ∧ NW of s b) ∧ DJ of s
/-- a bundle is as it was in all that counts for its hops -/
def EqB (s s' : Int → Int) (b : Int) : Prop := ∀ w, 0 ≤ w → w < 20 → w ≠ 6 → it s' b w = it s b w
theorem EqB.rf {s : Int → Int} {b : Int} : EqB s s b := fun _ _ _ _ => rfl
theorem EqB.h {nd cn : Int} {of s s' : Int → Int} {b : Int} (h : EqB s s' b) (hr : BR nd cn of s b) : (∀ k, 0 ≤ k → k < it s b 9 → hopC s' b k = hopC s b k ∧ hopB s' b k = hopB s b k) ∧ (∀ c t, arrT of s' b c t = arrT of s b c t) ∧ nodeP of s' b = nodeP of s b := by
  have h95 := hr.2.2.2.2.2.2.2.2.2.2.2.2.2.2.1
  refine ⟨fun k k0 k1 => ⟨h _ (by omega) (by omega) (by omega), h _ (by omega) (by omega) (by omega)⟩, fun c t => ?_, ?_⟩
  · unfold arrT
    rw [h 0 (by decide) (by decide) (by decide)]
  · unfold nodeP
    rw [h 7 (by decide) (by decide) (by decide), h 4 (by decide) (by decide) (by decide)]
theorem CH_eq {nd cn : Int} {of s s' : Int → Int} {b : Int} (h : EqB s s' b) (hr : BR nd cn of s b) (hc : CH of s b) : CH of s' b := by
  obtain ⟨h1, h2, h3⟩ := h.h hr
  obtain ⟨c1, c2, c3⟩ := hc
  unfold CH
  rw [h 7 (by decide) (by decide) (by decide), h 4 (by decide) (by decide) (by decide), h 1 (by decide) (by decide) (by decide), h 9 (by decide) (by decide) (by decide), h 5 (by decide) (by decide) (by decide), h 8 (by decide) (by decide) (by decide), h 2 (by decide) (by decide) (by decide), h3, h2]
  refine ⟨c1, fun h9 => ?_, fun k k0 k1 => ?_⟩
  · have := c2 h9
    rw [h2, (h1 (it s b 9 - 1) (by omega) (by omega)).1, (h1 (it s b 9 - 1) (by omega) (by omega)).2, (h1 0 (by omega) h9).2]
    exact this
  · have := c3 k k0 k1
    rw [h2, (h1 k k0 (by omega)).1, (h1 k k0 (by omega)).2, (h1 (k + 1) (by omega) k1).2]
    exact this
theorem NW_eq {nd cn : Int} {of s s' : Int → Int} {b : Int} (h : EqB s s' b) (h0 : s' 0 = s 0) (hr : BR nd cn of s b) (hc : NW of s b) : NW of s' b := by
  obtain ⟨h1, h2, h3⟩ := h.h hr
  obtain ⟨c1, c2⟩ := hc
  unfold NW
  rw [h 7 (by decide) (by decide) (by decide), h 8 (by decide) (by decide) (by decide), h 9 (by decide) (by decide) (by decide), h2, h0]
  refine ⟨c1, fun h7 h9 => ?_⟩
  rw [(h1 0 (by omega) h9).2]
  exact c2 h7 h9
theorem TKb_eq {nd cn : Int} {of s s' : Int → Int} {b c t : Int} (h : EqB s s' b) (hr : BR nd cn of s b) : TKb of s' b c t ↔ TKb of s b c t := by
  obtain ⟨h1, h2, h3⟩ := h.h hr
  unfold TKb OnT
  rw [h 7 (by decide) (by decide) (by decide), h 8 (by decide) (by decide) (by decide), h 9 (by decide) (by decide) (by decide), h 0 (by decide) (by decide) (by decide)]
  refine or_congr Iff.rfl ⟨?_, ?_⟩
  · rintro ⟨k, k0, k1, k2⟩
    refine ⟨k, k0, k1, ?_⟩
    unfold HpT at k2 ⊢
    rw [(h1 k k0 k1).1, (h1 k k0 k1).2, h 0 (by decide) (by decide) (by decide)] at k2
    exact k2
  · rintro ⟨k, k0, k1, k2⟩
    refine ⟨k, k0, k1, ?_⟩
    unfold HpT at k2 ⊢
    rw [(h1 k k0 k1).1, (h1 k k0 k1).2, h 0 (by decide) (by decide) (by decide)]
    exact k2
/-- the numbers are those that count -/
theorem SV_cong {nd cn : Int} {of s s' : Int → Int} (h : ∀ j, 0 ≤ j → j < 163 → s' j = s j) (hs : SV nd cn of s) : SV nd cn of s' := by
  obtain ⟨⟨s0, s1, s2, s3, s4⟩, hv, hd⟩ := hs
  have e0 := h 0 (by decide) (by decide)
  have e2 := h 2 (by decide) (by decide)
  have eb : ∀ b, 0 ≤ b → b < s 2 → ∀ w, 0 ≤ w → w < 20 → it s' b w = it s b w := fun b b0 b1 w w0 w1 => h _ (by omega) (by omega)
  have eq : ∀ b, 0 ≤ b → b < s 2 → EqB s s' b := fun b b0 b1 w w0 w1 _ => eb b b0 b1 w w0 w1
  refine ⟨⟨by omega, by omega, by omega, by omega, fun b b0 b1 => BR_same (eb b b0 (by omega)) (s4 b b0 (by omega))⟩, fun b b0 b1 => ?_, fun b o c t b0 b1 o0 o1 hne hc => ?_⟩
  · have hb := hv b b0 (by omega)
    have hr := s4 b b0 (by omega)
    exact ⟨CH_eq (eq b b0 (by omega)) hr hb.1, NW_eq (eq b b0 (by omega)) e0 hr hb.2⟩
  · rw [TKb_eq (eq b b0 (by omega)) (s4 b b0 (by omega)), TKb_eq (eq o o0 (by omega)) (s4 o o0 (by omega))]
    exact hd b o c t b0 (by omega) o0 (by omega) hne hc
/-- hops given up: a bundle that has none to come -/
theorem CH_0 {of s : Int → Int} {b : Int} (h9 : it s b 9 = 0) (h : it s b 7 ≠ -9 → it s b 4 ≠ it s b 1) : CH of s b := ⟨h, fun q => by omega, fun k k0 k1 => by omega⟩
/-- a bundle is as it was or has given up its hops -/
def GvB (s s' : Int → Int) (b : Int) : Prop := EqB s s' b ∨ (it s' b 9 = 0 ∧ ∀ w, 0 ≤ w → w < 20 → w ≠ 5 → w ≠ 6 → w ≠ 9 → it s' b w = it s b w)
theorem GvB_CH {nd cn : Int} {of s s' : Int → Int} {b : Int} (h : GvB s s' b) (hr : BR nd cn of s b) (hc : CH of s b) : CH of s' b := by
  rcases h with h | ⟨h9, h⟩
  · exact CH_eq h hr hc
  · refine CH_0 h9 ?_
    rw [h 7 (by decide) (by decide) (by decide) (by decide) (by decide), h 4 (by decide) (by decide) (by decide) (by decide) (by decide), h 1 (by decide) (by decide) (by decide) (by decide) (by decide)]
    exact hc.1
theorem GvB_NW {nd cn : Int} {of s s' : Int → Int} {b : Int} (h : GvB s s' b) (h0 : s' 0 = s 0) (hr : BR nd cn of s b) (hc : NW of s b) : NW of s' b := by
  rcases h with h | ⟨h9, h⟩
  · exact NW_eq h h0 hr hc
  · unfold NW arrT
    rw [h 7 (by decide) (by decide) (by decide) (by decide) (by decide), h 8 (by decide) (by decide) (by decide) (by decide) (by decide), h 0 (by decide) (by decide) (by decide) (by decide) (by decide), h0, h9]
    exact ⟨hc.1, fun _ q => by omega⟩
theorem GvB_TK {nd cn : Int} {of s s' : Int → Int} {b c t : Int} (h : GvB s s' b) (hr : BR nd cn of s b) (hT : TKb of s' b c t) : TKb of s b c t := by
  rcases h with h | ⟨h9, h⟩
  · exact (TKb_eq h hr).mp hT
  · rcases hT with hT | ⟨k, k0, k1, -⟩
    · refine Or.inl ?_
      unfold OnT at hT ⊢
      rw [h 7 (by decide) (by decide) (by decide) (by decide) (by decide), h 8 (by decide) (by decide) (by decide) (by decide) (by decide), h 0 (by decide) (by decide) (by decide) (by decide) (by decide)] at hT
      exact hT
    · omega
/-- from numbers where some bundles have given up their hops, and nothing else has changed -/
theorem SV_give {nd cn : Int} {of s s' : Int → Int} (hs : SV nd cn of s) (hr : SR nd cn of s') (h0 : s' 0 = s 0) (h2 : s' 2 = s 2) (h : ∀ b, 0 ≤ b → b < s 2 → GvB s s' b) : SV nd cn of s' := by
  obtain ⟨hR, hv, hd⟩ := hs
  refine ⟨hr, fun b b0 b1 => ?_, fun b o c t b0 b1 o0 o1 hne hc hb ho => ?_⟩
  · rw [h2] at b1
    have hb := hv b b0 b1
    have hB := hR.2.2.2.2 b b0 b1
    exact ⟨GvB_CH (h b b0 b1) hB hb.1, GvB_NW (h b b0 b1) h0 hB hb.2⟩
  · rw [h2] at b1 o1
    exact hd b o c t b0 b1 o0 o1 hne hc (GvB_TK (h b b0 b1) (hR.2.2.2.2 b b0 b1) hb) (GvB_TK (h o o0 o1) (hR.2.2.2.2 o o0 o1) ho)
theorem GvB_of_give {s : Int → Int} {b o : Int} (_ho : 0 ≤ o) : GvB s (giveP s b) o := by
  by_cases e : o = b
  · subst e
    exact Or.inr ⟨it_set_at (by omega), fun w w0 w1 _ _ w9 => it_set_ne (by omega) ⟨w0, w1⟩ (Or.inr w9)⟩
  · exact Or.inl (fun w w0 w1 _ => it_set_ne (by omega) ⟨w0, w1⟩ (Or.inl e))
theorem SV_giveP {nd cn b : Int} {of s : Int → Int} (hs : SV nd cn of s) (hb : 0 ≤ b) : SV nd cn of (giveP s b) :=
  SV_give hs (SR_give hb hs.1) (set1_ne (by omega)) (set1_ne (by omega)) (fun _ o0 _ => GvB_of_give o0)
theorem SV_why {nd cn b v : Int} {of s : Int → Int} (hs : SV nd cn of s) (hb : 0 ≤ b) (hv : v = 0 ∨ v = 1) : SV nd cn of (set1 s (3 + 20 * b + 6) v) :=
  SV_give hs (SR_why hb hv hs.1) (set1_ne (by omega)) (set1_ne (by omega)) (fun _ _ _ => Or.inl (fun w w0 w1 w6 => it_set_ne (by omega) ⟨w0, w1⟩ (Or.inr w6)))
/-- what is known of the hops of a way -/
theorem wayB_free {nd cn w g a : Int} {of s : Int → Int} {tk : Int → Int → Prop} (hp : PW nd cn of) (hw : 1 ≤ w ∧ w ≤ 20) (l : List Int) : ∀ {v t : Int}, WK cn (Fc of) (Tc of) (EE cn of s tk w (-9)) l v t g a →
    (∀ k : Nat, k < l.length → OKt of s tk (l.getD k 0) (tkD of w (l.getD k 0)) ((wayB of s tk w l t).getD k 0)) ∧
    (0 < l.length → t ≤ (wayB of s tk w l t).getD 0 0) ∧
    (∀ k : Nat, k + 1 < l.length → (wayB of s tk w l t).getD k 0 + tkD of w (l.getD k 0) + cf of (l.getD k 0) 5 ≤ (wayB of s tk w l t).getD (k + 1) 0) ∧
    (0 < l.length → (wayB of s tk w l t).getD (l.length - 1) 0 + tkD of w (l.getD (l.length - 1) 0) + cf of (l.getD (l.length - 1) 0) 5 = a ∧ cf of (l.getD (l.length - 1) 0) 1 = g) := by
  induction l with
  | nil =>
    intro v t h
    exact ⟨fun k hk => by simp at hk, fun h => by simp at h, fun k hk => by simp at hk, fun h => by simp at h⟩
  | cons c l ih =>
    rintro v t ⟨⟨h1, h2, h3, h4⟩, h5⟩
    have hms : ¬ (c = -9 ∨ msB (s 1) c ∨ ¬ (0 ≤ c ∧ c < cn)) := fun q => by
      have : EE cn of s tk w (-9) c t = 9999 := if_pos q
      omega
    have hE : EE cn of s tk w (-9) c t = endE of s tk w c t := if_neg hms
    rw [hE] at h4 h5
    obtain ⟨i1, i2, i3, i4⟩ := ih h5
    have hof := hp.2.2.2.2 c h1 h2
    have hd := tkD_le hw.1 hw.2 hof.2.2.2.2.2.2.2.2.2.1 hof.2.2.2.2.2.2.2.2.2.2.1
    cases hf : fbP of s tk c (tkD of w c) t with
    | none =>
      unfold endE at h4
      rw [hf] at h4
      simp at h4
    | some r =>
      have hfi := fbP_in hf hd.1
      have he : endE of s tk w c t = r + tkD of w c + cf of c 5 := by
        unfold endE
        rw [hf]
      have hway : wayB of s tk w (c :: l) t = r :: wayB of s tk w l (endE of s tk w c t) := by
        show (fbP of s tk c (tkD of w c) t).getD 9999 :: _ = _
        rw [hf]
        rfl
      rw [hway]
      refine ⟨fun k hk => ?_, fun _ => hfi.1, fun k hk => ?_, fun _ => ?_⟩
      · cases k with
        | zero => exact hfi.2.2.2.2
        | succ k => exact i1 k (by simp at hk; omega)
      · cases k with
        | zero =>
          have := i2 (by simp at hk; omega)
          rw [he] at this
          show r + tkD of w c + cf of c 5 ≤ (wayB of s tk w l (endE of s tk w c t)).getD 0 0
          rw [he]
          exact this
        | succ k => exact i3 k (by simp at hk; omega)
      · cases l with
        | nil =>
          obtain ⟨e1, e2⟩ := h5
          refine ⟨?_, e1⟩
          show r + tkD of w c + cf of c 5 = a
          omega
        | cons c' l' => exact i4 (by simp)
/-- no node of a best way but its last is the goal -/
theorem best_inner {cn v t g a : Int} {F T : Int → Int} {E : Int → Int → Int} {l : List Int} (hu : upE E) (h : BestW cn F T E v t g l a) {k : Nat} (hk : k + 1 < l.length) : T (l.getD k 0) ≠ g := by
  intro e
  obtain ⟨h1, h2, h3⟩ := h
  have hsp : l = l.take (k + 1) ++ l.drop (k + 1) := (List.take_append_drop (k + 1) l).symm
  rw [hsp] at h1
  obtain ⟨u, b, w1, w2⟩ := WK_split h1
  have hlast : l.take (k + 1) = l.take k ++ [l.getD k 0] := by
    rw [List.take_succ, List.getD_eq_getElem?_getD]
    congr 1
    rw [List.getElem?_eq_getElem (by omega)]
    rfl
  have w1' := w1
  rw [hlast] at w1'
  obtain ⟨b', w3, w4, w5, w6, w7, w8⟩ := WK_app.mp w1'
  have hug : u = g := by rw [← w7, e]
  rw [hug] at w1
  have hle := WK_le hu w2
  have hlen : (l.take (k + 1)).length = k + 1 := by rw [List.length_take]; omega
  have := h3 (l.take (k + 1)) b w1 (by omega)
  rw [hlen] at this
  rcases this with q | ⟨q, q2 | ⟨q2, -⟩⟩
  · omega
  · omega
  · omega
