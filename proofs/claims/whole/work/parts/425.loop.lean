-- the law: its loop (by program, wip/gen/gen_loop.py)
section LoopL
variable {G : GT} {b Ls : Nat} {xs : Nat → Int32}
theorem l_exit {c0 s0 n : Nat} {μ : Mem} {i : Int} (hc : c0 ≤ 600000) (hs : s0 ≤ 7302250) : Wl G b Ls xs c0 s0 n μ 758 (lL i) [] := by
  refine l_iconst dL_law_758 ⟨by decide, by decide⟩ ?_
  exact l_end dL_law_759 hc hs
theorem l_tab {c0 s0 n : Nat} {μ : Mem} {i v : Int} (hg : gx G = fun _ _ => True) (hF : FX n μ) (hI : INV n μ) (h0 : 0 ≤ i) (h1 : i + 6 ≤ Ls) (hLs : Ls ≤ 3072) (hc : c0 + 150 ≤ 600000) (hs : s0 + 900 ≤ 7302250) (w : ∀ (n' : Nat) (ν : Mem), FX n' ν → INV n' ν → Wl G b Ls xs (c0 + 150) (s0 + 900) n' ν 752 (lL i) []) : Wl G b Ls xs c0 s0 n μ 33 (lL i) [.inl v] := by
  refine l_table dL_law_33 (tgt := 752) (by decide) (fun v0 v1 => ?_) (fun _ => l_wide (by omega) (by omega) (w n μ hF hI))
  have hv : v = 0 ∨ v = 1 ∨ v = 2 ∨ v = 3 ∨ v = 4 ∨ v = 5 ∨ v = 6 ∨ v = 7 ∨ v = 8 ∨ v = 9 ∨ v = 10 ∨ v = 11 ∨ v = 12 ∨ v = 13 ∨ v = 14 ∨ v = 15 ∨ v = 16 ∨ v = 17 ∨ v = 18 ∨ v = 19 ∨ v = 20 ∨ v = 21 := by omega
  rcases hv with rfl | rfl | rfl | rfl | rfl | rfl | rfl | rfl | rfl | rfl | rfl | rfl | rfl | rfl | rfl | rfl | rfl | rfl | rfl | rfl | rfl | rfl
  · exact ⟨103, 136, by decide, by decide, ca_136 hg hF hI h0 h1 hLs hc hs w⟩
  · exact ⟨126, 159, by decide, by decide, ca_159 hg hF hI h0 h1 hLs hc hs w⟩
  · exact ⟨139, 172, by decide, by decide, ca_172 hg hF hI h0 h1 hLs hc hs w⟩
  · exact ⟨152, 185, by decide, by decide, ca_185 hg hF hI h0 h1 hLs hc hs w⟩
  · exact ⟨185, 218, by decide, by decide, ca_218 hg hF hI h0 h1 hLs hc hs w⟩
  · exact ⟨248, 281, by decide, by decide, ca_281 hg hF hI h0 h1 hLs hc hs w⟩
  · exact ⟨271, 304, by decide, by decide, ca_304 hg hF hI h0 h1 hLs hc hs w⟩
  · exact ⟨294, 327, by decide, by decide, ca_327 hg hF hI h0 h1 hLs hc hs w⟩
  · exact ⟨317, 350, by decide, by decide, ca_350 hg hF hI h0 h1 hLs hc hs w⟩
  · exact ⟨340, 373, by decide, by decide, ca_373 hg hF hI h0 h1 hLs hc hs w⟩
  · exact ⟨353, 386, by decide, by decide, ca_386 hg hF hI h0 h1 hLs hc hs w⟩
  · exact ⟨386, 419, by decide, by decide, ca_419 hg hF hI h0 h1 hLs hc hs w⟩
  · exact ⟨429, 462, by decide, by decide, ca_462 hg hF hI h0 h1 hLs hc hs w⟩
  · exact ⟨462, 495, by decide, by decide, ca_495 hg hF hI h0 h1 hLs hc hs w⟩
  · exact ⟨515, 548, by decide, by decide, ca_548 hg hF hI h0 h1 hLs hc hs w⟩
  · exact ⟨568, 601, by decide, by decide, ca_601 hg hF hI h0 h1 hLs hc hs w⟩
  · exact ⟨581, 614, by decide, by decide, ca_614 hg hF hI h0 h1 hLs hc hs w⟩
  · exact ⟨624, 657, by decide, by decide, ca_657 hg hF hI h0 h1 hLs hc hs w⟩
  · exact ⟨637, 670, by decide, by decide, ca_670 hg hF hI h0 h1 hLs hc hs w⟩
  · exact ⟨650, 683, by decide, by decide, ca_683 hg hF hI h0 h1 hLs hc hs w⟩
  · exact ⟨673, 706, by decide, by decide, ca_706 hg hF hI h0 h1 hLs hc hs w⟩
  · exact ⟨696, 729, by decide, by decide, ca_729 hg hF hI h0 h1 hLs hc hs w⟩
theorem l_loop (hg : gx G = fun _ _ => True) (hLs : Ls ≤ 3072) (f : Nat) : ∀ (j n : Nat) (μ : Mem), FX n μ → INV n μ → 6 * j ≤ Ls → Ls ≤ 6 * j + f → Wl G b Ls xs (415 + 150 * j) (101706 + 900 * j) n μ 18 (lL (6 * j)) [] := by
  induction f with
  | zero =>
    intro j n μ hF hI h1 h2
    refine l_iload_n (k := 0) dL_law_18 rfl rfl ?_
    refine l_len (by omega) dL_law_19 dL_law_20 ?_
    refine l_bipush dL_law_21 ⟨by decide, by decide⟩ rfl ?_
    refine l_isub dL_law_23 ⟨by omega, by omega⟩ ?_
    exact l_icmp_gt dL_law_24 (tgt := 758) (by decide) (fun _ => l_exit (by omega) (by omega)) (fun h => absurd (by omega) h)
  | succ f ih =>
    intro j n μ hF hI h1 h2
    refine l_iload_n (k := 0) dL_law_18 rfl rfl ?_
    refine l_len (by omega) dL_law_19 dL_law_20 ?_
    refine l_bipush dL_law_21 ⟨by decide, by decide⟩ rfl ?_
    refine l_isub dL_law_23 ⟨by omega, by omega⟩ ?_
    refine l_icmp_gt dL_law_24 (tgt := 758) (by decide) (fun _ => l_exit (by omega) (by omega)) (fun h => ?_)
    refine l_elem0 (k := 0) rfl (by omega) (by omega) dL_law_27 dL_law_28 dL_law_29 ?_
    refine l_bipush dL_law_30 ⟨by decide, by decide⟩ rfl ?_
    refine l_iand dL_law_32 ?_
    refine l_tab hg hF hI (by omega) (by omega) hLs (by omega) (by omega) (fun n' ν hF' hI' => ?_)
    refine l_iinc (k := 0) (i := 3) dL_law_752 rfl ⟨by omega, by omega⟩ (by decide) (by decide) rfl ?_
    refine l_goto dL_law_755 (tgt := 18) (by decide) ?_
    have w := ih (j + 1) n' ν hF' hI' (by omega) (by omega)
    rw [show 415 + 150 * (j + 1) = 415 + 150 * j + 150 by omega, show 101706 + 900 * (j + 1) = 101706 + 900 * j + 900 by omega, show (6 : Int) * ((j + 1 : Nat) : Int) = 6 * (j : Int) + 6 by omega] at w
    exact w
end LoopL
