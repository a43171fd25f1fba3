-- planning keeps what holds
theorem stateP_open {of s : Int → Int} {b : Int} : stateP of s b ≤ 1 ↔ ¬ (it s b 7 = -9 ∧ it s b 4 = it s b 1) ∧ it s b 5 ≠ 1 ∧ s 0 ≤ it s b 2 := by
  unfold stateP
  split
  · rename_i h; exact ⟨fun q => by omega, fun q => absurd h q.1⟩
  · rename_i h
    split
    · rename_i h2; exact ⟨fun q => by omega, fun q => absurd h2 q.2.1⟩
    · rename_i h2
      split
      · rename_i h3; exact ⟨fun q => by omega, fun q => by omega⟩
      · rename_i h3
        refine ⟨fun _ => ⟨h, h2, by omega⟩, fun _ => ?_⟩
        split
        · omega
        · omega
theorem stateP_in {of s : Int → Int} {b : Int} : 0 ≤ stateP of s b ∧ stateP of s b ≤ 4 := by
  unfold stateP
  split
  · omega
  · split
    · omega
    · split
      · omega
      · split
        · omega
        · omega
/-- a bundle with hops to come is open -/
theorem CH_open {nd cn : Int} {of s : Int → Int} {b : Int} (hp : PW nd cn of) (hr : BR nd cn of s b) (hc : CH of s b) (hn : NW of s b) (h9 : 0 < it s b 9) : stateP of s b ≤ 1 := by
  rw [stateP_open]
  have h1 := hc.2.1 h9
  have key : ∀ (d : Nat) (k : Int), k + d = it s b 9 - 1 → 0 ≤ k → hopB s b k ≤ arrT of s b (hopC s b (it s b 9 - 1)) (hopB s b (it s b 9 - 1)) := by
    intro d
    induction d with
    | zero =>
      intro k e k0
      have ek : k = it s b 9 - 1 := by omega
      subst ek
      have hh := hr.2.2.2.2.2.2.2.2.2.2.2.2.2.2.2.1 (it s b 9 - 1) (by omega) (by omega)
      have hof := hp.2.2.2.2 _ hh.1 hh.2.1
      have hd := tkD_le hr.1 hr.2.1 hof.2.2.2.2.2.2.2.2.2.1 hof.2.2.2.2.2.2.2.2.2.2.1
      unfold arrT
      omega
    | succ d ih =>
      intro k e k0
      have i := ih (k + 1) (by omega) (by omega)
      have h3 := (hc.2.2 k k0 (by omega)).2
      have hh := hr.2.2.2.2.2.2.2.2.2.2.2.2.2.2.2.1 k (by omega) (by omega)
      have hof := hp.2.2.2.2 _ hh.1 hh.2.1
      have hd := tkD_le hr.1 hr.2.1 hof.2.2.2.2.2.2.2.2.2.1 hof.2.2.2.2.2.2.2.2.2.2.1
      unfold arrT at h3 i ⊢
      omega
  have hB0 := key (it s b 9 - 1).toNat 0 (by omega) (by decide)
  have hnow : s 0 ≤ hopB s b 0 := by
    by_cases c : it s b 7 = -9
    · exact hn.2 c h9
    · have := (hn.1 c).2
      have := h1.2.2.1 c
      omega
  refine ⟨fun q => ?_, h1.2.1, by omega⟩
  have := h1.1
  unfold nodeP at this
  rw [if_pos q.1] at this
  exact this q.2
section Keep
variable {nd cn b : Int} {of s : Int → Int}
/-- planning one keeps all, where it gets the hops of a way -/
theorem getP_SV (hp : PW nd cn of) (hs : SV nd cn of s) (hb : 0 ≤ b ∧ b < s 2) (h9 : it s b 9 = 0) (hop : stateP of s b ≤ 1) (hno : nodeP of s b ≠ it s b 1) (hA : bestA cn of s b ≤ it s b 2) :
    SV nd cn of (giveAll (getP s b (bestL cn of s b) (bestB cn of s b)) (poSet of (getP s b (bestL cn of s b) (bestB cn of s b)) b (s 2).toNat) (s 2).toNat) := by
  have hR := hs.1
  have hB := hR.2.2.2.2 b hb.1 hb.2
  have hm8 := hR.2.2.2.1
  have hw : 1 ≤ it s b 0 ∧ it s b 0 ≤ 20 := ⟨hB.1, hB.2.1⟩
  obtain ⟨h1, h2, h3, h4⟩ := best_ex hp hR hb (by have := hB.2.2.2.2.2.1; omega)
  have hfree := wayB_free hp hw (bestL cn of s b) (v := nodeP of s b) (t := whenP of s b) (tk := tkS of s (it s b 3)) (g := it s b 1) (a := bestA cn of s b) h1.1
  rw [show wayB of s (tkS of s (it s b 3)) (it s b 0) (bestL cn of s b) (whenP of s b) = bestB cn of s b from rfl] at hfree
  have hin : ∀ k : Nat, k + 1 < (bestL cn of s b).length → Tc of ((bestL cn of s b).getD k 0) ≠ it s b 1 := fun k hk => best_inner (EE_up hp hw) h1 hk
  generalize bestL cn of s b = l at *
  generalize bestB cn of s b = bs at *
  have hR3 : SR nd cn of (getP s b l bs) := getP_SR hb hR h2 (fun k hk => by have := h4 k hk; have := hR.1; exact ⟨this |> fun _ => (h4 k hk).1, (h4 k hk).2.1, by omega, (h4 k hk).2.2.2⟩)
  have f : ∀ w, 0 ≤ w → w < 9 → it (getP s b l bs) b w = it s b w := fun w w0 w1 => getP_it h2 (by omega) (Or.inr w1)
  have fo : ∀ o, o ≠ b → EqB s (getP s b l bs) o := fun o ho w w0 w1 _ => getP_it h2 ⟨w0, w1⟩ (Or.inl ho)
  have e9 : it (getP s b l bs) b 9 = l.length := getP_9
  have ea : ∀ c t, arrT of (getP s b l bs) b c t = t + tkD of (it s b 0) c + cf of c 5 := fun c t => by unfold arrT; rw [f 0 (by decide) (by decide)]
  have en : nodeP of (getP s b l bs) b = nodeP of s b := by unfold nodeP; rw [f 7 (by decide) (by decide), f 4 (by decide) (by decide)]
  have lo : ∀ k, k < 3 → getP s b l bs k = s k := fun k hk => getP_lo hb.1 hk
  have hv := hs.2.1 b hb.1 hb.2
  have hopen := stateP_open.mp hop
  -- the chain
  have hCH : CH of (getP s b l bs) b := by
    unfold CH
    rw [f 7 (by decide) (by decide), f 4 (by decide) (by decide), f 1 (by decide) (by decide), f 5 (by decide) (by decide), f 8 (by decide) (by decide), f 2 (by decide) (by decide), e9, en, ea]
    refine ⟨hv.1.1, fun h0 => ?_, fun k k0 k1 => ?_⟩
    · have hl : 0 < l.length := by omega
      obtain ⟨j, hj⟩ : ∃ j : Nat, l.length = j + 1 := ⟨l.length - 1, by omega⟩
      have hj1 := getP_hop (s := s) (b := b) (bs := bs) h2 (show j < l.length by omega)
      have hj0 := getP_hop (s := s) (b := b) (bs := bs) h2 (show 0 < l.length by omega)
      have h5 := hfree.2.2.2 hl
      have h6 := hfree.2.1 hl
      rw [show l.length - 1 = j by omega] at h5
      rw [show ((l.length : Nat) : Int) - 1 = (j : Int) by omega, ea, hj1.1, hj1.2]
      refine ⟨hno, hopen.2.1, fun h7 => ?_, by omega, h5.2⟩
      have e0 : hopB (getP s b l bs) b 0 = bs.getD 0 0 := hj0.2
      rw [e0]
      unfold whenP at h6
      rw [if_neg h7] at h6
      unfold arrT at h6
      exact h6
    · obtain ⟨j, rfl⟩ := Int.eq_ofNat_of_zero_le k0
      have hj0 := getP_hop (s := s) (b := b) (bs := bs) h2 (show j < l.length by omega)
      have hj1 := getP_hop (s := s) (b := b) (bs := bs) h2 (show j + 1 < l.length by omega)
      rw [ea, hj0.1, hj0.2]
      refine ⟨hin j (by omega), ?_⟩
      have := hfree.2.2.1 j (by omega)
      have e1 : hopB (getP s b l bs) b ((j : Int) + 1) = bs.getD (j + 1) 0 := hj1.2
      rw [e1]
      exact this
  have hNW : NW of (getP s b l bs) b := by
    unfold NW
    rw [f 7 (by decide) (by decide), f 8 (by decide) (by decide), e9, ea, lo 0 (by decide)]
    refine ⟨fun h7 => ?_, fun h7 h0 => ?_⟩
    · have := hv.2.1 h7
      unfold arrT at this
      exact this
    · have hl : 0 < l.length := by omega
      have hj0 := getP_hop (s := s) (b := b) (bs := bs) h2 (show 0 < l.length by omega)
      have e0 : hopB (getP s b l bs) b 0 = bs.getD 0 0 := hj0.2
      rw [e0]
      exact (h4 0 hl).2.2.1
  -- what it takes
  have hTb : ∀ c t, 0 ≤ c → TKb of (getP s b l bs) b c t → TKb of s b c t ∨ (∃ k : Nat, k < l.length ∧ HpT of (getP s b l bs) b k c t ∧ ¬ tkS of s (it s b 3) c t) := by
    intro c t hc hT
    rcases hT with hT | ⟨k, k0, k1, hT⟩
    · refine Or.inl (Or.inl ?_)
      unfold OnT at hT ⊢
      rw [f 7 (by decide) (by decide), f 8 (by decide) (by decide), f 0 (by decide) (by decide)] at hT
      exact hT
    · refine Or.inr ?_
      obtain ⟨j, rfl⟩ := Int.eq_ofNat_of_zero_le k0
      rw [e9] at k1
      refine ⟨j, by omega, hT, ?_⟩
      have hj0 := getP_hop (s := s) (b := b) (bs := bs) h2 (show j < l.length by omega)
      have hok := hfree.1 j (by omega)
      unfold HpT at hT
      rw [hj0.1, hj0.2, f 0 (by decide) (by decide)] at hT
      obtain ⟨hT1, hT2, hT3⟩ := hT
      have := hok t hT2 (by rw [hT1]; exact hT3)
      rw [hT1] at this
      exact this.2.2.2
  refine ⟨giveAll_SR _ hR3, fun o o0 o1 => ?_, fun o1 o2 c t b0 b1 g0 g1 hne hc hT1 hT2 => ?_⟩
  · rw [giveAll_lo _ _ _ (by decide), lo 2 (by decide)] at o1
    have hGv : GvB (getP s b l bs) (giveAll (getP s b l bs) (poSet of (getP s b l bs) b (s 2).toNat) (s 2).toNat) o := by
      by_cases h : o < ((s 2).toNat : Int) ∧ msB (poSet of (getP s b l bs) b (s 2).toNat) o
      · exact Or.inr ⟨by rw [giveAll_9 _ _ o0, if_pos h], fun w w0 w1 _ _ w9 => giveAll_it _ ⟨w0, w1⟩ w9⟩
      · refine Or.inl (fun w w0 w1 _ => ?_)
        by_cases e9 : w = 9
        · rw [e9, giveAll_9 _ _ o0, if_neg h]
        · exact giveAll_it _ ⟨w0, w1⟩ e9
    have l0 : giveAll (getP s b l bs) (poSet of (getP s b l bs) b (s 2).toNat) (s 2).toNat 0 = getP s b l bs 0 := giveAll_lo _ _ _ (by decide)
    have hB3 := hR3.2.2.2.2 o o0 (by rw [lo 2 (by decide)]; exact o1)
    by_cases e : o = b
    · rw [e] at hGv hB3 ⊢
      exact ⟨GvB_CH hGv hB3 hCH, GvB_NW hGv l0 hB3 hNW⟩
    · have hBo := hR.2.2.2.2 o o0 o1
      have hvo := hs.2.1 o o0 o1
      exact ⟨GvB_CH hGv hB3 (CH_eq (fo o e) hBo hvo.1), GvB_NW hGv l0 hB3 (NW_eq (fo o e) (lo 0 (by decide)) hBo hvo.2)⟩
  · rw [giveAll_lo _ _ _ (by decide), lo 2 (by decide)] at b1 g1
    have gv : ∀ o, 0 ≤ o → GvB (getP s b l bs) (giveAll (getP s b l bs) (poSet of (getP s b l bs) b (s 2).toNat) (s 2).toNat) o := by
      intro o o0
      by_cases h : o < ((s 2).toNat : Int) ∧ msB (poSet of (getP s b l bs) b (s 2).toNat) o
      · exact Or.inr ⟨by rw [giveAll_9 _ _ o0, if_pos h], fun w w0 w1 _ _ w9 => giveAll_it _ ⟨w0, w1⟩ w9⟩
      · refine Or.inl (fun w w0 w1 _ => ?_)
        by_cases e9 : w = 9
        · rw [e9, giveAll_9 _ _ o0, if_neg h]
        · exact giveAll_it _ ⟨w0, w1⟩ e9
    -- the one that is planned against another
    have main : ∀ o, 0 ≤ o → o < s 2 → o ≠ b → TKb of (giveAll (getP s b l bs) (poSet of (getP s b l bs) b (s 2).toNat) (s 2).toNat) b c t → ¬ TKb of (giveAll (getP s b l bs) (poSet of (getP s b l bs) b (s 2).toNat) (s 2).toNat) o c t := by
      intro o o0 o1 hne hT1 hT2
      have hB3 := hR3.2.2.2.2 o o0 (by rw [lo 2 (by decide)]; exact o1)
      have hBo := hR.2.2.2.2 o o0 o1
      have hB3b := hR3.2.2.2.2 b hb.1 (by rw [lo 2 (by decide)]; exact hb.2)
      have ho3 := GvB_TK (gv o o0) hB3 hT2
      have hos := (TKb_eq (fo o hne) hBo).mp ho3
      rcases hTb c t hc (GvB_TK (gv b hb.1) hB3b hT1) with q | ⟨k, k1, k2, k3⟩
      · exact hs.2.2 b o c t hb.1 hb.2 o0 o1 (fun e => hne e.symm) hc q hos
      · rcases hos with q | ⟨e, e0, e1, e2⟩
        · exact k3 ⟨o, o0, o1, Or.inl q⟩
        · by_cases hpr : it s b 3 ≤ it s o 3
          · exact k3 ⟨o, o0, o1, Or.inr ⟨by omega, hpr, e, e0, e1, e2⟩⟩
          · have h3o : it (getP s b l bs) o 3 = it s o 3 := fo o hne 3 (by decide) (by decide) (by decide)
            have h9o : it (getP s b l bs) o 9 = it s o 9 := fo o hne 9 (by decide) (by decide) (by decide)
            have hho := ((fo o hne).h hBo).1 e e0 e1
            have h0o : it (getP s b l bs) o 0 = it s o 0 := fo o hne 0 (by decide) (by decide) (by decide)
            have hpo : poP of (getP s b l bs) b o := by
              refine ⟨k, by omega, by rw [e9]; omega, by rw [h3o, f 3 (by decide) (by decide)]; omega, e, e0, by rw [h9o]; exact e1, ?_⟩
              unfold HpT at k2 e2
              unfold meetP
              rw [hho.1, hho.2, h0o]
              obtain ⟨a1, a2, a3⟩ := k2
              obtain ⟨c1, c2, c3⟩ := e2
              rw [a1, c1]
              exact ⟨rfl, by omega, by omega⟩
            have hm : o < ((s 2).toNat : Int) ∧ msB (poSet of (getP s b l bs) b (s 2).toNat) o := ⟨by omega, (poSet_ms of _ b (by omega) ⟨o0, by omega⟩).mpr ⟨by omega, hpo⟩⟩
            rcases hT2 with q | ⟨e', e0', e1', e2'⟩
            · have q' : OnT of s o c t := by
                unfold OnT at q ⊢
                rw [giveAll_it _ (by omega) (by decide), giveAll_it _ (by omega) (by decide), giveAll_it _ (by omega) (by decide), fo o hne 7 (by decide) (by decide) (by decide), fo o hne 8 (by decide) (by decide) (by decide), h0o] at q
                exact q
              exact k3 ⟨o, o0, o1, Or.inl q'⟩
            · rw [giveAll_9 _ _ o0, if_pos hm] at e1'
              omega
    by_cases e1 : o1 = b
    · rw [e1] at hT1
      exact main o2 g0 g1 (fun e => hne (by rw [e1, e])) hT1 hT2
    · by_cases e2 : o2 = b
      · rw [e2] at hT2
        exact main o1 b0 b1 e1 hT2 hT1
      · have hB1 := hR3.2.2.2.2 o1 b0 (by rw [lo 2 (by decide)]; exact b1)
        have hB2 := hR3.2.2.2.2 o2 g0 (by rw [lo 2 (by decide)]; exact g1)
        exact hs.2.2 o1 o2 c t b0 b1 g0 g1 hne hc ((TKb_eq (fo o1 e1) (hR.2.2.2.2 o1 b0 b1)).mp (GvB_TK (gv o1 b0) hB1 hT1)) ((TKb_eq (fo o2 e2) (hR.2.2.2.2 o2 g0 g1)).mp (GvB_TK (gv o2 g0) hB2 hT2))
end Keep
