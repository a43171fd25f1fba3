-- where everything lies once the constructors are through: what the final fields hold
def finK (kd : Nat) (k : Int) : Bool := match kd with
  | 0 => k == 0 || k == 1
  | 2 => k == 0 || k == 1
  | 3 => k == 0 || k == 1
  | 4 => k == 0 || k == 1
  | 5 => k == 0
  | 6 => k == 0 || k == 1 || k == 2 || k == 3
  | 7 => k == 0 || k == 1
  | 8 => k == 0 || k == 1
  | 9 => k == 0
  | 10 => decide (0 ≤ k) && decide (k ≤ 10)
  | 11 => k == 3 || k == 6 || k == 7 || k == 9 || k == 10 || k == 11 || k == 12 || k == 14 || k == 15 || k == 16 || k == 18 || k == 22 || k == 23 || k == 25 || k == 26
  | 22 => decide (0 ≤ k) && decide (k < 8)
  | 24 => decide (0 ≤ k) && decide (k < 8)
  | _ => false
/-- the columns of a table, by the length of its row of cells -/
def colsOf (len : Nat) : Int := if len = 800 then 100 else if len = 18 then 3 else 4
def FV (a k : Int) : Int := match (SH a).1 with
  | 0 => if k = 0 then 7 else a + 1
  | 2 => if k = 0 then 77 else 106
  | 3 => if k = 0 then a + 1 else a + 2
  | 4 => if k = 0 then 1 else 4
  | 5 => 10
  | 6 => if k = 0 then 7 else if k = 1 then 11 else if k = 2 then 13 else 15
  | 7 => if k = 0 then a + 1 else a + 4
  | 8 => if k = 0 then colsOf (SH (a + 1)).2 else a + 1
  | 9 => a + 1
  | 10 => if k = 0 then 1 else if k = 1 then 3 else if k = 2 then 7 else if k = 3 then 10 else if k = 4 then 17 else if k = 5 then 18 else if k = 6 then 47 else if k = 7 then 76 else if k = 8 then 339 else if k = 9 then 368 else 397
  | 11 => if k = 3 then 400 else if k = 6 then 401 else if k = 7 then 402 else if k = 9 then 403 else if k = 10 then 404 else if k = 11 then 405 else if k = 12 then 406 else if k = 14 then 407 else if k = 15 then 408 else if k = 16 then 409 else if k = 18 then 410 else if k = 22 then 411 else if k = 23 then 412 else if k = 25 then 413 else 414
  | 22 => a + 1 + 3 * k
  | _ => a + 1 + 29 * k
def FX (n : Nat) (μ : Mem) : Prop := 415 ≤ n ∧ ∀ a k : Int, 0 ≤ a → a < 415 → finK (SH a).1 k = true → μ a k = FV a k
/-- a cell made by the constructors -/
def St (a : Int) (kd N : Nat) : Prop := 0 ≤ a ∧ a < 415 ∧ SH a = (kd, N)
/-- a contact -/
def Co (n : Nat) (a : Int) : Prop := 0 ≤ a ∧ a < n ∧ SH a = (1, 6)
/-- a cell, while the constructors run -/
def Oc (n : Nat) (a : Int) (kd N : Nat) : Prop := 0 ≤ a ∧ a < n ∧ SH a = (kd, N)
theorem FX_up {n : Nat} {μ : Mem} {a k v : Int} (h : FX n μ) (hk : finK (SH a).1 k = false) : FX n (up μ a k v) := by
  refine ⟨h.1, fun x j h0 h1 hj => ?_⟩
  by_cases e : x = a
  · subst e
    by_cases ej : j = k
    · subst ej
      rw [hk] at hj
      cases hj
    · rw [up_oth ej]
      exact h.2 x j h0 h1 hj
  · rw [up_ne e]
    exact h.2 x j h0 h1 hj
theorem FX_nw {n : Nat} {μ : Mem} {d : Int → Int} (h : FX n μ) : FX (n + 1) (nw μ n d) := by
  have h1 := h.1
  refine ⟨by omega, fun x j h0 hx hj => ?_⟩
  rw [nw_ne (by omega)]
  exact h.2 x j h0 hx hj
theorem St_ho {G : GT} {n : Nat} {μ : Mem} {a : Int} {kd N : Nat} (hg : gx G = FX) (h : St a kd N) : gx G n μ → 0 ≤ a ∧ a < n ∧ SH a = (kd, N) := by
  intro f
  rw [hg] at f
  have := f.1
  exact ⟨h.1, by have := h.2.1; omega, h.2.2⟩
theorem FX_put {G : GT} {n : Nat} {μ : Mem} {a k v : Int} {kd N : Nat} (hg : gx G = FX) (h : St a kd N) (hk : finK kd k = false) : gx G n μ → gx G n (up μ a k v) := by
  intro f
  rw [hg] at f ⊢
  exact FX_up f (by rw [h.2.2]; exact hk)
theorem FX_putC {G : GT} {n : Nat} {μ : Mem} {a k v : Int} (hg : gx G = FX) (h : Co n a) : gx G n μ → gx G n (up μ a k v) := by
  intro f
  rw [hg] at f ⊢
  exact FX_up f (by rw [h.2.2]; rfl)
theorem FX_new {G : GT} {n : Nat} {μ : Mem} {d : Int → Int} (hg : gx G = FX) : gx G n μ → gx G (n + 1) (nw μ n d) := by
  intro f
  rw [hg] at f ⊢
  exact FX_nw f
theorem SHL_len : SHL.length = 415 := by decide +kernel
theorem SH_new {G : GT} {n : Nat} {μ : Mem} (hg : gx G = FX) (f : gx G n μ) : SH (n : Int) = (1, 6) := by
  rw [hg] at f
  have h := f.1
  unfold SH
  rw [if_neg (by omega), List.getD_eq_getElem?_getD, List.getElem?_eq_none (by rw [SHL_len]; omega)]
  rfl
theorem tru {G : GT} {n m : Nat} {μ ν : Mem} (hg : gx G = fun _ _ => True) : gx G n μ → gx G m ν := fun _ => by rw [hg]; trivial
theorem FX_at {n : Nat} {μ : Mem} {a k : Int} {kd N : Nat} (f : FX n μ) (h : St a kd N) (hk : finK kd k = true) : μ a k = FV a k := f.2 a k h.1 h.2.1 (by rw [h.2.2]; exact hk)
section Lay
variable {n : Nat} {μ : Mem} {a k : Int} {N : Nat}
theorem fx_0_0 (f : FX n μ) (h : St a 0 N) : μ a 0 = 7 := by rw [FX_at f h (by decide)]; unfold FV; rw [h.2.2]; rfl
theorem fx_0_1 (f : FX n μ) (h : St a 0 N) : μ a 1 = a + 1 := by rw [FX_at f h (by decide)]; unfold FV; rw [h.2.2]; rfl
theorem fx_2_0 (f : FX n μ) (h : St a 2 N) : μ a 0 = 77 := by rw [FX_at f h (by decide)]; unfold FV; rw [h.2.2]; rfl
theorem fx_2_1 (f : FX n μ) (h : St a 2 N) : μ a 1 = 106 := by rw [FX_at f h (by decide)]; unfold FV; rw [h.2.2]; rfl
theorem fx_3_0 (f : FX n μ) (h : St a 3 N) : μ a 0 = a + 1 := by rw [FX_at f h (by decide)]; unfold FV; rw [h.2.2]; rfl
theorem fx_3_1 (f : FX n μ) (h : St a 3 N) : μ a 1 = a + 2 := by rw [FX_at f h (by decide)]; unfold FV; rw [h.2.2]; rfl
theorem fx_4_0 (f : FX n μ) (h : St a 4 N) : μ a 0 = 1 := by rw [FX_at f h (by decide)]; unfold FV; rw [h.2.2]; rfl
theorem fx_4_1 (f : FX n μ) (h : St a 4 N) : μ a 1 = 4 := by rw [FX_at f h (by decide)]; unfold FV; rw [h.2.2]; rfl
theorem fx_5_0 (f : FX n μ) (h : St a 5 N) : μ a 0 = 10 := by rw [FX_at f h (by decide)]; unfold FV; rw [h.2.2]; rfl
theorem fx_6_0 (f : FX n μ) (h : St a 6 N) : μ a 0 = 7 := by rw [FX_at f h (by decide)]; unfold FV; rw [h.2.2]; rfl
theorem fx_6_1 (f : FX n μ) (h : St a 6 N) : μ a 1 = 11 := by rw [FX_at f h (by decide)]; unfold FV; rw [h.2.2]; rfl
theorem fx_6_2 (f : FX n μ) (h : St a 6 N) : μ a 2 = 13 := by rw [FX_at f h (by decide)]; unfold FV; rw [h.2.2]; rfl
theorem fx_6_3 (f : FX n μ) (h : St a 6 N) : μ a 3 = 15 := by rw [FX_at f h (by decide)]; unfold FV; rw [h.2.2]; rfl
theorem fx_7_0 (f : FX n μ) (h : St a 7 N) : μ a 0 = a + 1 := by rw [FX_at f h (by decide)]; unfold FV; rw [h.2.2]; rfl
theorem fx_7_1 (f : FX n μ) (h : St a 7 N) : μ a 1 = a + 4 := by rw [FX_at f h (by decide)]; unfold FV; rw [h.2.2]; rfl
theorem fx_8_0 (f : FX n μ) (h : St a 8 N) : μ a 0 = colsOf (SH (a + 1)).2 := by rw [FX_at f h (by decide)]; unfold FV; rw [h.2.2]; rfl
theorem fx_8_1 (f : FX n μ) (h : St a 8 N) : μ a 1 = a + 1 := by rw [FX_at f h (by decide)]; unfold FV; rw [h.2.2]; rfl
theorem fx_9_0 (f : FX n μ) (h : St a 9 N) : μ a 0 = a + 1 := by rw [FX_at f h (by decide)]; unfold FV; rw [h.2.2]; rfl
theorem fx_22 (f : FX n μ) (h : St a 22 N) (h0 : 0 ≤ k) (h1 : k < 8) : μ a k = a + 1 + 3 * k := by rw [FX_at f h (by simp [finK, h0, h1])]; unfold FV; rw [h.2.2]; rfl
theorem fx_24 (f : FX n μ) (h : St a 24 N) (h0 : 0 ≤ k) (h1 : k < 8) : μ a k = a + 1 + 29 * k := by rw [FX_at f h (by simp [finK, h0, h1])]; unfold FV; rw [h.2.2]; rfl
end Lay
/-- whatever is checked for all places holds of a cell made by the constructors -/
theorem St_all {P : Int → Bool} (h : (List.range 415).all (fun i => P (i : Nat)) = true) {a : Int} {kd N : Nat} (s : St a kd N) : P a = true := by
  have := List.all_eq_true.mp h a.toNat (List.mem_range.mpr (by have := s.1; have := s.2.1; omega))
  rw [a_toNat s.1] at this
  exact this
def nxB (a : Int) (kd d kd' N' : Nat) : Bool := !((SH a).1 == kd) || (decide (a + d < 415) && (SH (a + d) == (kd', N')))
theorem nx_of {a : Int} {kd N d kd' N' : Nat} (s : St a kd N) (h : (List.range 415).all (fun i => nxB (i : Nat) kd d kd' N') = true) : St (a + d) kd' N' := by
  have := St_all (P := fun a => nxB a kd d kd' N') h s
  unfold nxB at this
  rw [s.2.2] at this
  simp at this
  exact ⟨by have := s.1; omega, this.1, this.2⟩
theorem st_0_1 {a : Int} {N : Nat} (s : St a 0 N) : St (a + 1) 8 3 := nx_of s (d := 1) (by decide +kernel)
theorem st_0_2 {a : Int} {N : Nat} (s : St a 0 N) : St (a + 1 + 1) 20 24 := by have := nx_of s (d := 2) (kd' := 20) (N' := 24) (by decide +kernel); rw [show a + 1 + 1 = a + (2 : Nat) by omega]; exact this
theorem st_3_1 {a : Int} {N : Nat} (s : St a 3 N) : St (a + 1) 1 6 := nx_of s (d := 1) (by decide +kernel)
theorem st_3_2 {a : Int} {N : Nat} (s : St a 3 N) : St (a + 2) 23 8 := nx_of s (d := 2) (by decide +kernel)
theorem st_7_1 {a : Int} {N : Nat} (s : St a 7 N) : St (a + 1) 0 9 := nx_of s (d := 1) (by decide +kernel)
theorem st_7_4 {a : Int} {N : Nat} (s : St a 7 N) : St (a + 4) 22 8 := nx_of s (d := 4) (by decide +kernel)
theorem st_9_1 {a : Int} {N : Nat} (s : St a 9 N) : St (a + 1) 20 150 := nx_of s (d := 1) (by decide +kernel)
def tbB (a : Int) : Bool := !((SH a).1 == 8) || (decide (a + 1 < 415) && ((SH (a + 1)).1 == 20))
theorem st_8_1 {a : Int} {N : Nat} (s : St a 8 N) : St (a + 1) 20 (SH (a + 1)).2 := by
  have := St_all (P := tbB) (by decide +kernel) s
  unfold tbB at this
  rw [s.2.2] at this
  simp at this
  exact ⟨by have := s.1; omega, this.1, by rw [← this.2]⟩
def buB (a : Int) : Bool := !((SH a).1 == 22) || (List.range 8).all (fun j => decide (a + 1 + 3 * (j : Nat) < 415) && (SH (a + 1 + 3 * (j : Nat)) == (0, 9)))
theorem st_22 {a k : Int} {N : Nat} (s : St a 22 N) (h0 : 0 ≤ k) (h1 : k < 8) : St (a + 1 + 3 * k) 0 9 := by
  have := St_all (P := buB) (by decide +kernel) s
  unfold buB at this
  rw [s.2.2] at this
  simp only [beq_self_eq_true, Bool.not_true, Bool.false_or] at this
  have := List.all_eq_true.mp this k.toNat (List.mem_range.mpr (by omega))
  simp only [Bool.and_eq_true, decide_eq_true_eq, beq_iff_eq] at this
  rw [a_toNat h0] at this
  exact ⟨by have := s.1; omega, this.1, this.2⟩
def siB (a : Int) : Bool := !((SH a).1 == 24) || (List.range 8).all (fun j => decide (a + 1 + 29 * (j : Nat) < 415) && (SH (a + 1 + 29 * (j : Nat)) == (7, 5)))
theorem st_24 {a k : Int} {N : Nat} (s : St a 24 N) (h0 : 0 ≤ k) (h1 : k < 8) : St (a + 1 + 29 * k) 7 5 := by
  have := St_all (P := siB) (by decide +kernel) s
  unfold siB at this
  rw [s.2.2] at this
  simp only [beq_self_eq_true, Bool.not_true, Bool.false_or] at this
  have := List.all_eq_true.mp this k.toNat (List.mem_range.mpr (by omega))
  simp only [Bool.and_eq_true, decide_eq_true_eq, beq_iff_eq] at this
  rw [a_toNat h0] at this
  exact ⟨by have := s.1; omega, this.1, this.2⟩
theorem St_dec {a : Int} {kd N : Nat} (h : (decide (0 ≤ a) && decide (a < 415) && (SH a == (kd, N))) = true) : St a kd N := by
  simp only [Bool.and_eq_true, decide_eq_true_eq, beq_iff_eq] at h
  exact ⟨h.1.1, h.1.2, h.2⟩
theorem gT_mem {i : Nat} {w : Cond} (h : lw_tbl[i]? = some w) (hg : goodWord w = true) : w ∈ gT := List.mem_filter.mpr ⟨List.mem_of_getElem? h, hg⟩
theorem gN_mem {i : Nat} {w : Cond} (h : lw_tbl[i]? = some w) (hg : isNest w = true) : w ∈ gN := List.mem_filter.mpr ⟨List.mem_of_getElem? h, hg⟩
