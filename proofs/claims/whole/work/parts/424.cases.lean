-- the law: its decode rows and cases, by program (wip/gen/gen_cases.py)
theorem dL_law_601 : decode cL_law 601 = .ok (.aload_n 1, 1) := by decide +kernel
theorem dL_law_602 : decode cL_law 602 = .ok (.invokevirtual 79, 3) := by decide +kernel
theorem dL_law_605 : decode cL_law 605 = .ok (.aload_n 2, 1) := by decide +kernel
theorem dL_law_606 : decode cL_law 606 = .ok (.invokevirtual 82, 3) := by decide +kernel
theorem dL_law_609 : decode cL_law 609 = .ok (.if_icmp .eq 143, 3) := by decide +kernel
theorem dL_law_614 : decode cL_law 614 = .ok (.aload_n 1, 1) := by decide +kernel
theorem dL_law_615 : decode cL_law 615 = .ok (.aload_n 0, 1) := by decide +kernel
theorem dL_law_616 : decode cL_law 616 = .ok (.iload_n 3, 1) := by decide +kernel
theorem dL_law_617 : decode cL_law 617 = .ok (.iconst 1, 1) := by decide +kernel
theorem dL_law_618 : decode cL_law 618 = .ok (.iadd, 1) := by decide +kernel
theorem dL_law_619 : decode cL_law 619 = .ok (.iaload, 1) := by decide +kernel
theorem dL_law_620 : decode cL_law 620 = .ok (.aload_n 0, 1) := by decide +kernel
theorem dL_law_621 : decode cL_law 621 = .ok (.iload_n 3, 1) := by decide +kernel
theorem dL_law_622 : decode cL_law 622 = .ok (.iconst 2, 1) := by decide +kernel
theorem dL_law_623 : decode cL_law 623 = .ok (.iadd, 1) := by decide +kernel
theorem dL_law_624 : decode cL_law 624 = .ok (.iaload, 1) := by decide +kernel
theorem dL_law_625 : decode cL_law 625 = .ok (.aload_n 0, 1) := by decide +kernel
theorem dL_law_626 : decode cL_law 626 = .ok (.iload_n 3, 1) := by decide +kernel
theorem dL_law_627 : decode cL_law 627 = .ok (.iconst 3, 1) := by decide +kernel
theorem dL_law_628 : decode cL_law 628 = .ok (.iadd, 1) := by decide +kernel
theorem dL_law_629 : decode cL_law 629 = .ok (.iaload, 1) := by decide +kernel
theorem dL_law_630 : decode cL_law 630 = .ok (.invokevirtual 83, 3) := by decide +kernel
theorem dL_law_633 : decode cL_law 633 = .ok (.aload_n 2, 1) := by decide +kernel
theorem dL_law_634 : decode cL_law 634 = .ok (.aload_n 0, 1) := by decide +kernel
theorem dL_law_635 : decode cL_law 635 = .ok (.iload_n 3, 1) := by decide +kernel
theorem dL_law_636 : decode cL_law 636 = .ok (.iconst 1, 1) := by decide +kernel
theorem dL_law_637 : decode cL_law 637 = .ok (.iadd, 1) := by decide +kernel
theorem dL_law_638 : decode cL_law 638 = .ok (.iaload, 1) := by decide +kernel
theorem dL_law_639 : decode cL_law 639 = .ok (.aload_n 0, 1) := by decide +kernel
theorem dL_law_640 : decode cL_law 640 = .ok (.iload_n 3, 1) := by decide +kernel
theorem dL_law_641 : decode cL_law 641 = .ok (.iconst 2, 1) := by decide +kernel
theorem dL_law_642 : decode cL_law 642 = .ok (.iadd, 1) := by decide +kernel
theorem dL_law_643 : decode cL_law 643 = .ok (.iaload, 1) := by decide +kernel
theorem dL_law_644 : decode cL_law 644 = .ok (.aload_n 0, 1) := by decide +kernel
theorem dL_law_645 : decode cL_law 645 = .ok (.iload_n 3, 1) := by decide +kernel
theorem dL_law_646 : decode cL_law 646 = .ok (.iconst 3, 1) := by decide +kernel
theorem dL_law_647 : decode cL_law 647 = .ok (.iadd, 1) := by decide +kernel
theorem dL_law_648 : decode cL_law 648 = .ok (.iaload, 1) := by decide +kernel
theorem dL_law_649 : decode cL_law 649 = .ok (.invokevirtual 86, 3) := by decide +kernel
theorem dL_law_652 : decode cL_law 652 = .ok (.if_icmp .eq 100, 3) := by decide +kernel
theorem dL_law_657 : decode cL_law 657 = .ok (.aload_n 1, 1) := by decide +kernel
theorem dL_law_658 : decode cL_law 658 = .ok (.invokevirtual 87, 3) := by decide +kernel
theorem dL_law_661 : decode cL_law 661 = .ok (.aload_n 2, 1) := by decide +kernel
theorem dL_law_662 : decode cL_law 662 = .ok (.invokevirtual 90, 3) := by decide +kernel
theorem dL_law_665 : decode cL_law 665 = .ok (.if_icmp .eq 87, 3) := by decide +kernel
theorem dL_law_670 : decode cL_law 670 = .ok (.aload_n 1, 1) := by decide +kernel
theorem dL_law_671 : decode cL_law 671 = .ok (.invokevirtual 91, 3) := by decide +kernel
theorem dL_law_674 : decode cL_law 674 = .ok (.aload_n 2, 1) := by decide +kernel
theorem dL_law_675 : decode cL_law 675 = .ok (.invokevirtual 94, 3) := by decide +kernel
theorem dL_law_678 : decode cL_law 678 = .ok (.if_icmp .eq 74, 3) := by decide +kernel
theorem dL_law_683 : decode cL_law 683 = .ok (.aload_n 1, 1) := by decide +kernel
theorem dL_law_684 : decode cL_law 684 = .ok (.aload_n 0, 1) := by decide +kernel
theorem dL_law_685 : decode cL_law 685 = .ok (.iload_n 3, 1) := by decide +kernel
theorem dL_law_686 : decode cL_law 686 = .ok (.iconst 1, 1) := by decide +kernel
theorem dL_law_687 : decode cL_law 687 = .ok (.iadd, 1) := by decide +kernel
theorem dL_law_688 : decode cL_law 688 = .ok (.iaload, 1) := by decide +kernel
theorem dL_law_689 : decode cL_law 689 = .ok (.invokevirtual 95, 3) := by decide +kernel
theorem dL_law_692 : decode cL_law 692 = .ok (.aload_n 2, 1) := by decide +kernel
theorem dL_law_693 : decode cL_law 693 = .ok (.aload_n 0, 1) := by decide +kernel
theorem dL_law_694 : decode cL_law 694 = .ok (.iload_n 3, 1) := by decide +kernel
theorem dL_law_695 : decode cL_law 695 = .ok (.iconst 1, 1) := by decide +kernel
theorem dL_law_696 : decode cL_law 696 = .ok (.iadd, 1) := by decide +kernel
theorem dL_law_697 : decode cL_law 697 = .ok (.iaload, 1) := by decide +kernel
theorem dL_law_698 : decode cL_law 698 = .ok (.invokevirtual 98, 3) := by decide +kernel
theorem dL_law_701 : decode cL_law 701 = .ok (.if_icmp .eq 51, 3) := by decide +kernel
theorem dL_law_706 : decode cL_law 706 = .ok (.aload_n 1, 1) := by decide +kernel
theorem dL_law_707 : decode cL_law 707 = .ok (.aload_n 0, 1) := by decide +kernel
theorem dL_law_708 : decode cL_law 708 = .ok (.iload_n 3, 1) := by decide +kernel
theorem dL_law_709 : decode cL_law 709 = .ok (.iconst 1, 1) := by decide +kernel
theorem dL_law_710 : decode cL_law 710 = .ok (.iadd, 1) := by decide +kernel
theorem dL_law_711 : decode cL_law 711 = .ok (.iaload, 1) := by decide +kernel
theorem dL_law_712 : decode cL_law 712 = .ok (.invokevirtual 99, 3) := by decide +kernel
theorem dL_law_715 : decode cL_law 715 = .ok (.aload_n 2, 1) := by decide +kernel
theorem dL_law_716 : decode cL_law 716 = .ok (.aload_n 0, 1) := by decide +kernel
theorem dL_law_717 : decode cL_law 717 = .ok (.iload_n 3, 1) := by decide +kernel
theorem dL_law_718 : decode cL_law 718 = .ok (.iconst 1, 1) := by decide +kernel
theorem dL_law_719 : decode cL_law 719 = .ok (.iadd, 1) := by decide +kernel
theorem dL_law_720 : decode cL_law 720 = .ok (.iaload, 1) := by decide +kernel
theorem dL_law_721 : decode cL_law 721 = .ok (.invokevirtual 102, 3) := by decide +kernel
theorem dL_law_724 : decode cL_law 724 = .ok (.if_icmp .eq 28, 3) := by decide +kernel
theorem dL_law_729 : decode cL_law 729 = .ok (.aload_n 1, 1) := by decide +kernel
theorem dL_law_730 : decode cL_law 730 = .ok (.aload_n 0, 1) := by decide +kernel
theorem dL_law_731 : decode cL_law 731 = .ok (.iload_n 3, 1) := by decide +kernel
theorem dL_law_732 : decode cL_law 732 = .ok (.iconst 1, 1) := by decide +kernel
theorem dL_law_733 : decode cL_law 733 = .ok (.iadd, 1) := by decide +kernel
theorem dL_law_734 : decode cL_law 734 = .ok (.iaload, 1) := by decide +kernel
theorem dL_law_735 : decode cL_law 735 = .ok (.invokevirtual 103, 3) := by decide +kernel
theorem dL_law_738 : decode cL_law 738 = .ok (.aload_n 2, 1) := by decide +kernel
theorem dL_law_739 : decode cL_law 739 = .ok (.aload_n 0, 1) := by decide +kernel
theorem dL_law_740 : decode cL_law 740 = .ok (.iload_n 3, 1) := by decide +kernel
theorem dL_law_741 : decode cL_law 741 = .ok (.iconst 1, 1) := by decide +kernel
theorem dL_law_742 : decode cL_law 742 = .ok (.iadd, 1) := by decide +kernel
theorem dL_law_743 : decode cL_law 743 = .ok (.iaload, 1) := by decide +kernel
theorem dL_law_744 : decode cL_law 744 = .ok (.invokevirtual 106, 3) := by decide +kernel
theorem dL_law_747 : decode cL_law 747 = .ok (.if_icmp .eq 5, 3) := by decide +kernel
section CasesL
variable {G : GT} {b Ls : Nat} {xs : Nat → Int32} {c0 s0 n : Nat} {μ : Mem} {i : Int}
theorem ca_601 (hg : gx G = fun _ _ => True) (hF : FX n μ) (hI : INV n μ) (h0 : 0 ≤ i) (h1 : i + 6 ≤ Ls) (hLs : Ls ≤ 3072) (hc : c0 + 150 ≤ 600000) (hs : s0 + 900 ≤ 7302250) (w : ∀ (n' : Nat) (ν : Mem), FX n' ν → INV n' ν → Wl G b Ls xs (c0 + 150) (s0 + 900) n' ν 752 (lL i) []) : Wl G b Ls xs c0 s0 n μ 601 (lL i) [] := by
  have hP : Pr (setX G FX) Y_X10_worst Y_X11_worst [] n μ := P_worst rfl hI
  refine l_aload_n (k := 2) (by decide) dL_law_601 rfl rfl ?_
  refine l_VI (Yc := Y_X10_worst) (ci := 10) (N := 12) (a := 0) (st := []) (As := []) rfl dL_law_602 lm_L_79 mc_X10_worst mi_X10_worst ms_X10_worst (Nat.le_of_ble_eq_true rfl) (fits_of (by decide) (by show c0 + 0 ≤ 600000; omega) (by show s0 + 0 ≤ 7302250; omega)) cf_10.2.1 (by decide) ⟨by decide, by have := hF.1; omega, St_0.2.2⟩ (CI_gx hg hF hP) rfl rfl ?_
  intro x1 n1 μ1 hq
  obtain ⟨hq1, hF1⟩ := hq
  refine l_aload_n (k := 1) (by decide) dL_law_605 rfl rfl ?_
  refine l_VI (Yc := Y_X11_worst) (ci := 11) (N := 28) (a := 399) (st := [.inl x1]) (As := []) rfl dL_law_606 lm_L_82 mc_X11_worst mi_X11_worst ms_X11_worst (Nat.le_of_ble_eq_true rfl) (fits_of (by decide) (by show c0 + 0 + 0 ≤ 600000; omega) (by show s0 + 0 + 0 ≤ 7302250; omega)) cf_11.2.1 (by decide) ⟨by decide, by have := hF1.1; omega, St_399.2.2⟩ (CI_gx hg hF1 hq1) rfl rfl ?_
  intro x2 n2 μ2 hq
  obtain ⟨⟨he, hI2⟩, hF2⟩ := hq
  refine l_same (tgt := 752) dL_law_609 rfl he (l_wide ?_ ?_ (w n2 μ2 hF2 hI2))
  · show c0 + 0 + 0 ≤ c0 + 150
    omega
  · show s0 + 0 + 0 ≤ s0 + 900
    omega
theorem ca_614 (hg : gx G = fun _ _ => True) (hF : FX n μ) (hI : INV n μ) (h0 : 0 ≤ i) (h1 : i + 6 ≤ Ls) (hLs : Ls ≤ 3072) (hc : c0 + 150 ≤ 600000) (hs : s0 + 900 ≤ 7302250) (w : ∀ (n' : Nat) (ν : Mem), FX n' ν → INV n' ν → Wl G b Ls xs (c0 + 150) (s0 + 900) n' ν 752 (lL i) []) : Wl G b Ls xs c0 s0 n μ 614 (lL i) [] := by
  have hP : Pr (setX G FX) Y_X10_sees Y_X11_sees [.inl (xs (i + ((1 : Nat) : Int)).toNat).toInt, .inl (xs (i + ((2 : Nat) : Int)).toNat).toInt, .inl (xs (i + ((3 : Nat) : Int)).toNat).toInt] n μ := P_sees rfl hI
  refine l_aload_n (k := 2) (by decide) dL_law_614 rfl rfl ?_
  refine l_elem (j := 1) (k := 0) ⟨by decide, by decide⟩ rfl h0 (by omega) (by omega) dL_law_615 dL_law_616 dL_law_617 dL_law_618 dL_law_619 ?_
  refine l_elem (j := 2) (k := 0) ⟨by decide, by decide⟩ rfl h0 (by omega) (by omega) dL_law_620 dL_law_621 dL_law_622 dL_law_623 dL_law_624 ?_
  refine l_elem (j := 3) (k := 0) ⟨by decide, by decide⟩ rfl h0 (by omega) (by omega) dL_law_625 dL_law_626 dL_law_627 dL_law_628 dL_law_629 ?_
  refine l_VI (Yc := Y_X10_sees) (ci := 10) (N := 12) (a := 0) (st := []) (As := [.inl (xs (i + ((1 : Nat) : Int)).toNat).toInt, .inl (xs (i + ((2 : Nat) : Int)).toNat).toInt, .inl (xs (i + ((3 : Nat) : Int)).toNat).toInt]) rfl dL_law_630 lm_L_83 mc_X10_sees mi_X10_sees ms_X10_sees (Nat.le_of_ble_eq_true rfl) (fits_of (by decide) (by show c0 + 0 ≤ 600000; omega) (by show s0 + 0 ≤ 7302250; omega)) cf_10.2.1 (by decide) ⟨by decide, by have := hF.1; omega, St_0.2.2⟩ (CI_gx hg hF hP) rfl rfl ?_
  intro x1 n1 μ1 hq
  obtain ⟨hq1, hF1⟩ := hq
  refine l_aload_n (k := 1) (by decide) dL_law_633 rfl rfl ?_
  refine l_elem (j := 1) (k := 0) ⟨by decide, by decide⟩ rfl h0 (by omega) (by omega) dL_law_634 dL_law_635 dL_law_636 dL_law_637 dL_law_638 ?_
  refine l_elem (j := 2) (k := 0) ⟨by decide, by decide⟩ rfl h0 (by omega) (by omega) dL_law_639 dL_law_640 dL_law_641 dL_law_642 dL_law_643 ?_
  refine l_elem (j := 3) (k := 0) ⟨by decide, by decide⟩ rfl h0 (by omega) (by omega) dL_law_644 dL_law_645 dL_law_646 dL_law_647 dL_law_648 ?_
  refine l_VI (Yc := Y_X11_sees) (ci := 11) (N := 28) (a := 399) (st := [.inl x1]) (As := [.inl (xs (i + ((1 : Nat) : Int)).toNat).toInt, .inl (xs (i + ((2 : Nat) : Int)).toNat).toInt, .inl (xs (i + ((3 : Nat) : Int)).toNat).toInt]) rfl dL_law_649 lm_L_86 mc_X11_sees mi_X11_sees ms_X11_sees (Nat.le_of_ble_eq_true rfl) (fits_of (by decide) (by show c0 + 0 + 0 ≤ 600000; omega) (by show s0 + 0 + 0 ≤ 7302250; omega)) cf_11.2.1 (by decide) ⟨by decide, by have := hF1.1; omega, St_399.2.2⟩ (CI_gx hg hF1 hq1) rfl rfl ?_
  intro x2 n2 μ2 hq
  obtain ⟨⟨he, hI2⟩, hF2⟩ := hq
  refine l_same (tgt := 752) dL_law_652 rfl he (l_wide ?_ ?_ (w n2 μ2 hF2 hI2))
  · show c0 + 0 + 0 ≤ c0 + 150
    omega
  · show s0 + 0 + 0 ≤ s0 + 900
    omega
theorem ca_657 (hg : gx G = fun _ _ => True) (hF : FX n μ) (hI : INV n μ) (h0 : 0 ≤ i) (h1 : i + 6 ≤ Ls) (hLs : Ls ≤ 3072) (hc : c0 + 150 ≤ 600000) (hs : s0 + 900 ≤ 7302250) (w : ∀ (n' : Nat) (ν : Mem), FX n' ν → INV n' ν → Wl G b Ls xs (c0 + 150) (s0 + 900) n' ν 752 (lL i) []) : Wl G b Ls xs c0 s0 n μ 657 (lL i) [] := by
  have hP : Pr (setX G FX) Y_X10_forget Y_X11_forget [] n μ := P_forget rfl hI
  refine l_aload_n (k := 2) (by decide) dL_law_657 rfl rfl ?_
  refine l_VI (Yc := Y_X10_forget) (ci := 10) (N := 12) (a := 0) (st := []) (As := []) rfl dL_law_658 lm_L_87 mc_X10_forget mi_X10_forget ms_X10_forget (Nat.le_of_ble_eq_true rfl) (fits_of (by decide) (by show c0 + 0 ≤ 600000; omega) (by show s0 + 0 ≤ 7302250; omega)) cf_10.2.1 (by decide) ⟨by decide, by have := hF.1; omega, St_0.2.2⟩ (CI_gx hg hF hP) rfl rfl ?_
  intro x1 n1 μ1 hq
  obtain ⟨hq1, hF1⟩ := hq
  refine l_aload_n (k := 1) (by decide) dL_law_661 rfl rfl ?_
  refine l_VI (Yc := Y_X11_forget) (ci := 11) (N := 28) (a := 399) (st := [.inl x1]) (As := []) rfl dL_law_662 lm_L_90 mc_X11_forget mi_X11_forget ms_X11_forget (Nat.le_of_ble_eq_true rfl) (fits_of (by decide) (by show c0 + 0 + 0 ≤ 600000; omega) (by show s0 + 0 + 0 ≤ 7302250; omega)) cf_11.2.1 (by decide) ⟨by decide, by have := hF1.1; omega, St_399.2.2⟩ (CI_gx hg hF1 hq1) rfl rfl ?_
  intro x2 n2 μ2 hq
  obtain ⟨⟨he, hI2⟩, hF2⟩ := hq
  refine l_same (tgt := 752) dL_law_665 rfl he (l_wide ?_ ?_ (w n2 μ2 hF2 hI2))
  · show c0 + 0 + 0 ≤ c0 + 150
    omega
  · show s0 + 0 + 0 ≤ s0 + 900
    omega
theorem ca_670 (hg : gx G = fun _ _ => True) (hF : FX n μ) (hI : INV n μ) (h0 : 0 ≤ i) (h1 : i + 6 ≤ Ls) (hLs : Ls ≤ 3072) (hc : c0 + 150 ≤ 600000) (hs : s0 + 900 ≤ 7302250) (w : ∀ (n' : Nat) (ν : Mem), FX n' ν → INV n' ν → Wl G b Ls xs (c0 + 150) (s0 + 900) n' ν 752 (lL i) []) : Wl G b Ls xs c0 s0 n μ 670 (lL i) [] := by
  have hP : Pr (setX G FX) Y_X10_unseen Y_X11_unseen [] n μ := P_unseen rfl hI
  refine l_aload_n (k := 2) (by decide) dL_law_670 rfl rfl ?_
  refine l_VI (Yc := Y_X10_unseen) (ci := 10) (N := 12) (a := 0) (st := []) (As := []) rfl dL_law_671 lm_L_91 mc_X10_unseen mi_X10_unseen ms_X10_unseen (Nat.le_of_ble_eq_true rfl) (fits_of (by decide) (by show c0 + 0 ≤ 600000; omega) (by show s0 + 0 ≤ 7302250; omega)) cf_10.2.1 (by decide) ⟨by decide, by have := hF.1; omega, St_0.2.2⟩ (CI_gx hg hF hP) rfl rfl ?_
  intro x1 n1 μ1 hq
  obtain ⟨hq1, hF1⟩ := hq
  refine l_aload_n (k := 1) (by decide) dL_law_674 rfl rfl ?_
  refine l_VI (Yc := Y_X11_unseen) (ci := 11) (N := 28) (a := 399) (st := [.inl x1]) (As := []) rfl dL_law_675 lm_L_94 mc_X11_unseen mi_X11_unseen ms_X11_unseen (Nat.le_of_ble_eq_true rfl) (fits_of (by decide) (by show c0 + 0 + 0 ≤ 600000; omega) (by show s0 + 0 + 0 ≤ 7302250; omega)) cf_11.2.1 (by decide) ⟨by decide, by have := hF1.1; omega, St_399.2.2⟩ (CI_gx hg hF1 hq1) rfl rfl ?_
  intro x2 n2 μ2 hq
  obtain ⟨⟨he, hI2⟩, hF2⟩ := hq
  refine l_same (tgt := 752) dL_law_678 rfl he (l_wide ?_ ?_ (w n2 μ2 hF2 hI2))
  · show c0 + 0 + 0 ≤ c0 + 150
    omega
  · show s0 + 0 + 0 ≤ s0 + 900
    omega
theorem ca_683 (hg : gx G = fun _ _ => True) (hF : FX n μ) (hI : INV n μ) (h0 : 0 ≤ i) (h1 : i + 6 ≤ Ls) (hLs : Ls ≤ 3072) (hc : c0 + 150 ≤ 600000) (hs : s0 + 900 ≤ 7302250) (w : ∀ (n' : Nat) (ν : Mem), FX n' ν → INV n' ν → Wl G b Ls xs (c0 + 150) (s0 + 900) n' ν 752 (lL i) []) : Wl G b Ls xs c0 s0 n μ 683 (lL i) [] := by
  have hP : Pr (setX G FX) Y_X10_keep Y_X11_keep [.inl (xs (i + ((1 : Nat) : Int)).toNat).toInt] n μ := P_keep rfl hI
  refine l_aload_n (k := 2) (by decide) dL_law_683 rfl rfl ?_
  refine l_elem (j := 1) (k := 0) ⟨by decide, by decide⟩ rfl h0 (by omega) (by omega) dL_law_684 dL_law_685 dL_law_686 dL_law_687 dL_law_688 ?_
  refine l_VI (Yc := Y_X10_keep) (ci := 10) (N := 12) (a := 0) (st := []) (As := [.inl (xs (i + ((1 : Nat) : Int)).toNat).toInt]) rfl dL_law_689 lm_L_95 mc_X10_keep mi_X10_keep ms_X10_keep (Nat.le_of_ble_eq_true rfl) (fits_of (by decide) (by show c0 + 0 ≤ 600000; omega) (by show s0 + 0 ≤ 7302250; omega)) cf_10.2.1 (by decide) ⟨by decide, by have := hF.1; omega, St_0.2.2⟩ (CI_gx hg hF hP) rfl rfl ?_
  intro x1 n1 μ1 hq
  obtain ⟨hq1, hF1⟩ := hq
  refine l_aload_n (k := 1) (by decide) dL_law_692 rfl rfl ?_
  refine l_elem (j := 1) (k := 0) ⟨by decide, by decide⟩ rfl h0 (by omega) (by omega) dL_law_693 dL_law_694 dL_law_695 dL_law_696 dL_law_697 ?_
  refine l_VI (Yc := Y_X11_keep) (ci := 11) (N := 28) (a := 399) (st := [.inl x1]) (As := [.inl (xs (i + ((1 : Nat) : Int)).toNat).toInt]) rfl dL_law_698 lm_L_98 mc_X11_keep mi_X11_keep ms_X11_keep (Nat.le_of_ble_eq_true rfl) (fits_of (by decide) (by show c0 + 0 + 0 ≤ 600000; omega) (by show s0 + 0 + 0 ≤ 7302250; omega)) cf_11.2.1 (by decide) ⟨by decide, by have := hF1.1; omega, St_399.2.2⟩ (CI_gx hg hF1 hq1) rfl rfl ?_
  intro x2 n2 μ2 hq
  obtain ⟨⟨he, hI2⟩, hF2⟩ := hq
  refine l_same (tgt := 752) dL_law_701 rfl he (l_wide ?_ ?_ (w n2 μ2 hF2 hI2))
  · show c0 + 0 + 0 ≤ c0 + 150
    omega
  · show s0 + 0 + 0 ≤ s0 + 900
    omega
theorem ca_706 (hg : gx G = fun _ _ => True) (hF : FX n μ) (hI : INV n μ) (h0 : 0 ≤ i) (h1 : i + 6 ≤ Ls) (hLs : Ls ≤ 3072) (hc : c0 + 150 ≤ 600000) (hs : s0 + 900 ≤ 7302250) (w : ∀ (n' : Nat) (ν : Mem), FX n' ν → INV n' ν → Wl G b Ls xs (c0 + 150) (s0 + 900) n' ν 752 (lL i) []) : Wl G b Ls xs c0 s0 n μ 706 (lL i) [] := by
  have hP : Pr (setX G FX) Y_X10_back Y_X11_back [.inl (xs (i + ((1 : Nat) : Int)).toNat).toInt] n μ := P_back rfl hI
  refine l_aload_n (k := 2) (by decide) dL_law_706 rfl rfl ?_
  refine l_elem (j := 1) (k := 0) ⟨by decide, by decide⟩ rfl h0 (by omega) (by omega) dL_law_707 dL_law_708 dL_law_709 dL_law_710 dL_law_711 ?_
  refine l_VI (Yc := Y_X10_back) (ci := 10) (N := 12) (a := 0) (st := []) (As := [.inl (xs (i + ((1 : Nat) : Int)).toNat).toInt]) rfl dL_law_712 lm_L_99 mc_X10_back mi_X10_back ms_X10_back (Nat.le_of_ble_eq_true rfl) (fits_of (by decide) (by show c0 + 0 ≤ 600000; omega) (by show s0 + 0 ≤ 7302250; omega)) cf_10.2.1 (by decide) ⟨by decide, by have := hF.1; omega, St_0.2.2⟩ (CI_gx hg hF hP) rfl rfl ?_
  intro x1 n1 μ1 hq
  obtain ⟨hq1, hF1⟩ := hq
  refine l_aload_n (k := 1) (by decide) dL_law_715 rfl rfl ?_
  refine l_elem (j := 1) (k := 0) ⟨by decide, by decide⟩ rfl h0 (by omega) (by omega) dL_law_716 dL_law_717 dL_law_718 dL_law_719 dL_law_720 ?_
  refine l_VI (Yc := Y_X11_back) (ci := 11) (N := 28) (a := 399) (st := [.inl x1]) (As := [.inl (xs (i + ((1 : Nat) : Int)).toNat).toInt]) rfl dL_law_721 lm_L_102 mc_X11_back mi_X11_back ms_X11_back (Nat.le_of_ble_eq_true rfl) (fits_of (by decide) (by show c0 + 0 + 0 ≤ 600000; omega) (by show s0 + 0 + 0 ≤ 7302250; omega)) cf_11.2.1 (by decide) ⟨by decide, by have := hF1.1; omega, St_399.2.2⟩ (CI_gx hg hF1 hq1) rfl rfl ?_
  intro x2 n2 μ2 hq
  obtain ⟨⟨he, hI2⟩, hF2⟩ := hq
  refine l_same (tgt := 752) dL_law_724 rfl he (l_wide ?_ ?_ (w n2 μ2 hF2 hI2))
  · show c0 + 0 + 0 ≤ c0 + 150
    omega
  · show s0 + 0 + 0 ≤ s0 + 900
    omega
theorem ca_729 (hg : gx G = fun _ _ => True) (hF : FX n μ) (hI : INV n μ) (h0 : 0 ≤ i) (h1 : i + 6 ≤ Ls) (hLs : Ls ≤ 3072) (hc : c0 + 150 ≤ 600000) (hs : s0 + 900 ≤ 7302250) (w : ∀ (n' : Nat) (ν : Mem), FX n' ν → INV n' ν → Wl G b Ls xs (c0 + 150) (s0 + 900) n' ν 752 (lL i) []) : Wl G b Ls xs c0 s0 n μ 729 (lL i) [] := by
  have hP : Pr (setX G FX) Y_X10_count Y_X11_count [.inl (xs (i + ((1 : Nat) : Int)).toNat).toInt] n μ := P_count rfl hI
  refine l_aload_n (k := 2) (by decide) dL_law_729 rfl rfl ?_
  refine l_elem (j := 1) (k := 0) ⟨by decide, by decide⟩ rfl h0 (by omega) (by omega) dL_law_730 dL_law_731 dL_law_732 dL_law_733 dL_law_734 ?_
  refine l_VI (Yc := Y_X10_count) (ci := 10) (N := 12) (a := 0) (st := []) (As := [.inl (xs (i + ((1 : Nat) : Int)).toNat).toInt]) rfl dL_law_735 lm_L_103 mc_X10_count mi_X10_count ms_X10_count (Nat.le_of_ble_eq_true rfl) (fits_of (by decide) (by show c0 + 0 ≤ 600000; omega) (by show s0 + 0 ≤ 7302250; omega)) cf_10.2.1 (by decide) ⟨by decide, by have := hF.1; omega, St_0.2.2⟩ (CI_gx hg hF hP) rfl rfl ?_
  intro x1 n1 μ1 hq
  obtain ⟨hq1, hF1⟩ := hq
  refine l_aload_n (k := 1) (by decide) dL_law_738 rfl rfl ?_
  refine l_elem (j := 1) (k := 0) ⟨by decide, by decide⟩ rfl h0 (by omega) (by omega) dL_law_739 dL_law_740 dL_law_741 dL_law_742 dL_law_743 ?_
  refine l_VI (Yc := Y_X11_count) (ci := 11) (N := 28) (a := 399) (st := [.inl x1]) (As := [.inl (xs (i + ((1 : Nat) : Int)).toNat).toInt]) rfl dL_law_744 lm_L_106 mc_X11_count mi_X11_count ms_X11_count (Nat.le_of_ble_eq_true rfl) (fits_of (by decide) (by show c0 + 0 + 0 ≤ 600000; omega) (by show s0 + 0 + 0 ≤ 7302250; omega)) cf_11.2.1 (by decide) ⟨by decide, by have := hF1.1; omega, St_399.2.2⟩ (CI_gx hg hF1 hq1) rfl rfl ?_
  intro x2 n2 μ2 hq
  obtain ⟨⟨he, hI2⟩, hF2⟩ := hq
  refine l_same (tgt := 752) dL_law_747 rfl he (l_wide ?_ ?_ (w n2 μ2 hF2 hI2))
  · show c0 + 0 + 0 ≤ c0 + 150
    omega
  · show s0 + 0 + 0 ≤ s0 + 900
    omega
end CasesL
