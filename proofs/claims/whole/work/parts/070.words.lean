-- words of the tables by their places; methods and their rooms; rows of the links in use (by program, wip/gen/gen_words.py)
theorem lay_0_0 : u_lay RX0 TX0 0 ∈ gT := gT_mem (i := 273) (by decide +kernel) (by decide +kernel)
theorem lay_0_1 : u_lay RX0 TX0 1 ∈ gT := gT_mem (i := 275) (by decide +kernel) (by decide +kernel)
theorem lay_0_2 : u_lay RX0 TX0 2 ∈ gT := gT_mem (i := 277) (by decide +kernel) (by decide +kernel)
theorem lay_0_3 : u_lay RX0 TX0 3 ∈ gT := gT_mem (i := 279) (by decide +kernel) (by decide +kernel)
theorem lay_0_4 : u_lay RX0 TX0 4 ∈ gT := gT_mem (i := 281) (by decide +kernel) (by decide +kernel)
theorem lay_0_5 : u_lay RX0 TX0 5 ∈ gT := gT_mem (i := 283) (by decide +kernel) (by decide +kernel)
theorem lay_0_6 : u_lay RX0 TX0 6 ∈ gT := gT_mem (i := 285) (by decide +kernel) (by decide +kernel)
theorem lay_0_7 : u_lay RX0 TX0 7 ∈ gT := gT_mem (i := 287) (by decide +kernel) (by decide +kernel)
theorem lay_0_8 : u_lay RX0 TX0 8 ∈ gT := gT_mem (i := 289) (by decide +kernel) (by decide +kernel)
theorem lays_0 : ∀ w ∈ wsX00, w ∈ gT := by
  intro w hw
  obtain ⟨k, hk, rfl⟩ := List.mem_map.mp hw
  have hk := List.mem_range.mp hk
  match k, hk with
  | 0, _ => exact lay_0_0
  | 1, _ => exact lay_0_1
  | 2, _ => exact lay_0_2
  | 3, _ => exact lay_0_3
  | 4, _ => exact lay_0_4
  | 5, _ => exact lay_0_5
  | 6, _ => exact lay_0_6
  | 7, _ => exact lay_0_7
  | 8, _ => exact lay_0_8
  | k + 9, hk => exact absurd hk (by omega)
theorem cf_0 : ClF 0 RX0 TX0 9 := ⟨by decide, rfl, tyX0_ok, nmX0, lays_0⟩
theorem sm_0 : ∀ k, k < 9 → smallT (tyC 0 k) := by
  intro k hk
  match k, hk with
  | 0, _ => exact ⟨by decide, by decide, by decide, by decide, by decide, by decide⟩
  | 1, _ => exact ⟨by decide, by decide, by decide, by decide, by decide, by decide⟩
  | 2, _ => exact ⟨by decide, by decide, by decide, by decide, by decide, by decide⟩
  | 3, _ => exact ⟨by decide, by decide, by decide, by decide, by decide, by decide⟩
  | 4, _ => exact ⟨by decide, by decide, by decide, by decide, by decide, by decide⟩
  | 5, _ => exact ⟨by decide, by decide, by decide, by decide, by decide, by decide⟩
  | 6, _ => exact ⟨by decide, by decide, by decide, by decide, by decide, by decide⟩
  | 7, _ => exact ⟨by decide, by decide, by decide, by decide, by decide, by decide⟩
  | 8, _ => exact ⟨by decide, by decide, by decide, by decide, by decide, by decide⟩
  | k + 9, hk => exact absurd hk (by omega)
theorem lay_1_0 : u_lay RX1 TX1 0 ∈ gT := gT_mem (i := 129) (by decide +kernel) (by decide +kernel)
theorem lay_1_1 : u_lay RX1 TX1 1 ∈ gT := gT_mem (i := 131) (by decide +kernel) (by decide +kernel)
theorem lay_1_2 : u_lay RX1 TX1 2 ∈ gT := gT_mem (i := 133) (by decide +kernel) (by decide +kernel)
theorem lay_1_3 : u_lay RX1 TX1 3 ∈ gT := gT_mem (i := 135) (by decide +kernel) (by decide +kernel)
theorem lay_1_4 : u_lay RX1 TX1 4 ∈ gT := gT_mem (i := 137) (by decide +kernel) (by decide +kernel)
theorem lay_1_5 : u_lay RX1 TX1 5 ∈ gT := gT_mem (i := 139) (by decide +kernel) (by decide +kernel)
theorem lays_1 : ∀ w ∈ wsX10, w ∈ gT := by
  intro w hw
  obtain ⟨k, hk, rfl⟩ := List.mem_map.mp hw
  have hk := List.mem_range.mp hk
  match k, hk with
  | 0, _ => exact lay_1_0
  | 1, _ => exact lay_1_1
  | 2, _ => exact lay_1_2
  | 3, _ => exact lay_1_3
  | 4, _ => exact lay_1_4
  | 5, _ => exact lay_1_5
  | k + 6, hk => exact absurd hk (by omega)
theorem cf_1 : ClF 1 RX1 TX1 6 := ⟨by decide, rfl, tyX1_ok, nmX1, lays_1⟩
theorem sm_1 : ∀ k, k < 6 → smallT (tyC 1 k) := by
  intro k hk
  match k, hk with
  | 0, _ => exact ⟨by decide, by decide, by decide, by decide, by decide, by decide⟩
  | 1, _ => exact ⟨by decide, by decide, by decide, by decide, by decide, by decide⟩
  | 2, _ => exact ⟨by decide, by decide, by decide, by decide, by decide, by decide⟩
  | 3, _ => exact ⟨by decide, by decide, by decide, by decide, by decide, by decide⟩
  | 4, _ => exact ⟨by decide, by decide, by decide, by decide, by decide, by decide⟩
  | 5, _ => exact ⟨by decide, by decide, by decide, by decide, by decide, by decide⟩
  | k + 6, hk => exact absurd hk (by omega)
theorem lay_2_0 : u_lay RX2 TX2 0 ∈ gT := gT_mem (i := 329) (by decide +kernel) (by decide +kernel)
theorem lay_2_1 : u_lay RX2 TX2 1 ∈ gT := gT_mem (i := 331) (by decide +kernel) (by decide +kernel)
theorem lay_2_2 : u_lay RX2 TX2 2 ∈ gT := gT_mem (i := 333) (by decide +kernel) (by decide +kernel)
theorem lay_2_3 : u_lay RX2 TX2 3 ∈ gT := gT_mem (i := 335) (by decide +kernel) (by decide +kernel)
theorem lays_2 : ∀ w ∈ wsX20, w ∈ gT := by
  intro w hw
  obtain ⟨k, hk, rfl⟩ := List.mem_map.mp hw
  have hk := List.mem_range.mp hk
  match k, hk with
  | 0, _ => exact lay_2_0
  | 1, _ => exact lay_2_1
  | 2, _ => exact lay_2_2
  | 3, _ => exact lay_2_3
  | k + 4, hk => exact absurd hk (by omega)
theorem cf_2 : ClF 2 RX2 TX2 4 := ⟨by decide, rfl, tyX2_ok, nmX2, lays_2⟩
theorem sm_2 : ∀ k, k < 4 → smallT (tyC 2 k) := by
  intro k hk
  match k, hk with
  | 0, _ => exact ⟨by decide, by decide, by decide, by decide, by decide, by decide⟩
  | 1, _ => exact ⟨by decide, by decide, by decide, by decide, by decide, by decide⟩
  | 2, _ => exact ⟨by decide, by decide, by decide, by decide, by decide, by decide⟩
  | 3, _ => exact ⟨by decide, by decide, by decide, by decide, by decide, by decide⟩
  | k + 4, hk => exact absurd hk (by omega)
theorem lay_3_0 : u_lay RX3 TX3 0 ∈ gT := gT_mem (i := 151) (by decide +kernel) (by decide +kernel)
theorem lay_3_1 : u_lay RX3 TX3 1 ∈ gT := gT_mem (i := 153) (by decide +kernel) (by decide +kernel)
theorem lay_3_2 : u_lay RX3 TX3 2 ∈ gT := gT_mem (i := 155) (by decide +kernel) (by decide +kernel)
theorem lay_3_3 : u_lay RX3 TX3 3 ∈ gT := gT_mem (i := 157) (by decide +kernel) (by decide +kernel)
theorem lays_3 : ∀ w ∈ wsX30, w ∈ gT := by
  intro w hw
  obtain ⟨k, hk, rfl⟩ := List.mem_map.mp hw
  have hk := List.mem_range.mp hk
  match k, hk with
  | 0, _ => exact lay_3_0
  | 1, _ => exact lay_3_1
  | 2, _ => exact lay_3_2
  | 3, _ => exact lay_3_3
  | k + 4, hk => exact absurd hk (by omega)
theorem cf_3 : ClF 3 RX3 TX3 4 := ⟨by decide, rfl, tyX3_ok, nmX3, lays_3⟩
theorem sm_3 : ∀ k, k < 4 → smallT (tyC 3 k) := by
  intro k hk
  match k, hk with
  | 0, _ => exact ⟨by decide, by decide, by decide, by decide, by decide, by decide⟩
  | 1, _ => exact ⟨by decide, by decide, by decide, by decide, by decide, by decide⟩
  | 2, _ => exact ⟨by decide, by decide, by decide, by decide, by decide, by decide⟩
  | 3, _ => exact ⟨by decide, by decide, by decide, by decide, by decide, by decide⟩
  | k + 4, hk => exact absurd hk (by omega)
theorem lay_4_0 : u_lay RX4 TX4 0 ∈ gT := gT_mem (i := 165) (by decide +kernel) (by decide +kernel)
theorem lay_4_1 : u_lay RX4 TX4 1 ∈ gT := gT_mem (i := 167) (by decide +kernel) (by decide +kernel)
theorem lay_4_2 : u_lay RX4 TX4 2 ∈ gT := gT_mem (i := 169) (by decide +kernel) (by decide +kernel)
theorem lay_4_3 : u_lay RX4 TX4 3 ∈ gT := gT_mem (i := 171) (by decide +kernel) (by decide +kernel)
theorem lays_4 : ∀ w ∈ wsX40, w ∈ gT := by
  intro w hw
  obtain ⟨k, hk, rfl⟩ := List.mem_map.mp hw
  have hk := List.mem_range.mp hk
  match k, hk with
  | 0, _ => exact lay_4_0
  | 1, _ => exact lay_4_1
  | 2, _ => exact lay_4_2
  | 3, _ => exact lay_4_3
  | k + 4, hk => exact absurd hk (by omega)
theorem cf_4 : ClF 4 RX4 TX4 4 := ⟨by decide, rfl, tyX4_ok, nmX4, lays_4⟩
theorem sm_4 : ∀ k, k < 4 → smallT (tyC 4 k) := by
  intro k hk
  match k, hk with
  | 0, _ => exact ⟨by decide, by decide, by decide, by decide, by decide, by decide⟩
  | 1, _ => exact ⟨by decide, by decide, by decide, by decide, by decide, by decide⟩
  | 2, _ => exact ⟨by decide, by decide, by decide, by decide, by decide, by decide⟩
  | 3, _ => exact ⟨by decide, by decide, by decide, by decide, by decide, by decide⟩
  | k + 4, hk => exact absurd hk (by omega)
theorem lay_5_0 : u_lay RX5 TX5 0 ∈ gT := gT_mem (i := 238) (by decide +kernel) (by decide +kernel)
theorem lays_5 : ∀ w ∈ wsX50, w ∈ gT := by
  intro w hw
  obtain ⟨k, hk, rfl⟩ := List.mem_map.mp hw
  have hk := List.mem_range.mp hk
  match k, hk with
  | 0, _ => exact lay_5_0
  | k + 1, hk => exact absurd hk (by omega)
theorem cf_5 : ClF 5 RX5 TX5 1 := ⟨by decide, rfl, tyX5_ok, nmX5, lays_5⟩
theorem sm_5 : ∀ k, k < 1 → smallT (tyC 5 k) := by
  intro k hk
  match k, hk with
  | 0, _ => exact ⟨by decide, by decide, by decide, by decide, by decide, by decide⟩
  | k + 1, hk => exact absurd hk (by omega)
theorem lay_6_0 : u_lay RX6 TX6 0 ∈ gT := gT_mem (i := 214) (by decide +kernel) (by decide +kernel)
theorem lay_6_1 : u_lay RX6 TX6 1 ∈ gT := gT_mem (i := 216) (by decide +kernel) (by decide +kernel)
theorem lay_6_2 : u_lay RX6 TX6 2 ∈ gT := gT_mem (i := 218) (by decide +kernel) (by decide +kernel)
theorem lay_6_3 : u_lay RX6 TX6 3 ∈ gT := gT_mem (i := 220) (by decide +kernel) (by decide +kernel)
theorem lay_6_4 : u_lay RX6 TX6 4 ∈ gT := gT_mem (i := 222) (by decide +kernel) (by decide +kernel)
theorem lay_6_5 : u_lay RX6 TX6 5 ∈ gT := gT_mem (i := 224) (by decide +kernel) (by decide +kernel)
theorem lay_6_6 : u_lay RX6 TX6 6 ∈ gT := gT_mem (i := 226) (by decide +kernel) (by decide +kernel)
theorem lay_6_7 : u_lay RX6 TX6 7 ∈ gT := gT_mem (i := 228) (by decide +kernel) (by decide +kernel)
theorem lays_6 : ∀ w ∈ wsX60, w ∈ gT := by
  intro w hw
  obtain ⟨k, hk, rfl⟩ := List.mem_map.mp hw
  have hk := List.mem_range.mp hk
  match k, hk with
  | 0, _ => exact lay_6_0
  | 1, _ => exact lay_6_1
  | 2, _ => exact lay_6_2
  | 3, _ => exact lay_6_3
  | 4, _ => exact lay_6_4
  | 5, _ => exact lay_6_5
  | 6, _ => exact lay_6_6
  | 7, _ => exact lay_6_7
  | k + 8, hk => exact absurd hk (by omega)
theorem cf_6 : ClF 6 RX6 TX6 8 := ⟨by decide, rfl, tyX6_ok, nmX6, lays_6⟩
theorem sm_6 : ∀ k, k < 8 → smallT (tyC 6 k) := by
  intro k hk
  match k, hk with
  | 0, _ => exact ⟨by decide, by decide, by decide, by decide, by decide, by decide⟩
  | 1, _ => exact ⟨by decide, by decide, by decide, by decide, by decide, by decide⟩
  | 2, _ => exact ⟨by decide, by decide, by decide, by decide, by decide, by decide⟩
  | 3, _ => exact ⟨by decide, by decide, by decide, by decide, by decide, by decide⟩
  | 4, _ => exact ⟨by decide, by decide, by decide, by decide, by decide, by decide⟩
  | 5, _ => exact ⟨by decide, by decide, by decide, by decide, by decide, by decide⟩
  | 6, _ => exact ⟨by decide, by decide, by decide, by decide, by decide, by decide⟩
  | 7, _ => exact ⟨by decide, by decide, by decide, by decide, by decide, by decide⟩
  | k + 8, hk => exact absurd hk (by omega)
theorem lay_7_0 : u_lay RX7 TX7 0 ∈ gT := gT_mem (i := 304) (by decide +kernel) (by decide +kernel)
theorem lay_7_1 : u_lay RX7 TX7 1 ∈ gT := gT_mem (i := 306) (by decide +kernel) (by decide +kernel)
theorem lay_7_2 : u_lay RX7 TX7 2 ∈ gT := gT_mem (i := 308) (by decide +kernel) (by decide +kernel)
theorem lay_7_3 : u_lay RX7 TX7 3 ∈ gT := gT_mem (i := 310) (by decide +kernel) (by decide +kernel)
theorem lay_7_4 : u_lay RX7 TX7 4 ∈ gT := gT_mem (i := 312) (by decide +kernel) (by decide +kernel)
theorem lays_7 : ∀ w ∈ wsX70, w ∈ gT := by
  intro w hw
  obtain ⟨k, hk, rfl⟩ := List.mem_map.mp hw
  have hk := List.mem_range.mp hk
  match k, hk with
  | 0, _ => exact lay_7_0
  | 1, _ => exact lay_7_1
  | 2, _ => exact lay_7_2
  | 3, _ => exact lay_7_3
  | 4, _ => exact lay_7_4
  | k + 5, hk => exact absurd hk (by omega)
theorem cf_7 : ClF 7 RX7 TX7 5 := ⟨by decide, rfl, tyX7_ok, nmX7, lays_7⟩
theorem sm_7 : ∀ k, k < 5 → smallT (tyC 7 k) := by
  intro k hk
  match k, hk with
  | 0, _ => exact ⟨by decide, by decide, by decide, by decide, by decide, by decide⟩
  | 1, _ => exact ⟨by decide, by decide, by decide, by decide, by decide, by decide⟩
  | 2, _ => exact ⟨by decide, by decide, by decide, by decide, by decide, by decide⟩
  | 3, _ => exact ⟨by decide, by decide, by decide, by decide, by decide, by decide⟩
  | 4, _ => exact ⟨by decide, by decide, by decide, by decide, by decide, by decide⟩
  | k + 5, hk => exact absurd hk (by omega)
theorem lay_8_0 : u_lay RX8 TX8 0 ∈ gT := gT_mem (i := 198) (by decide +kernel) (by decide +kernel)
theorem lay_8_1 : u_lay RX8 TX8 1 ∈ gT := gT_mem (i := 200) (by decide +kernel) (by decide +kernel)
theorem lay_8_2 : u_lay RX8 TX8 2 ∈ gT := gT_mem (i := 202) (by decide +kernel) (by decide +kernel)
theorem lays_8 : ∀ w ∈ wsX80, w ∈ gT := by
  intro w hw
  obtain ⟨k, hk, rfl⟩ := List.mem_map.mp hw
  have hk := List.mem_range.mp hk
  match k, hk with
  | 0, _ => exact lay_8_0
  | 1, _ => exact lay_8_1
  | 2, _ => exact lay_8_2
  | k + 3, hk => exact absurd hk (by omega)
theorem cf_8 : ClF 8 RX8 TX8 3 := ⟨by decide, rfl, tyX8_ok, nmX8, lays_8⟩
theorem sm_8 : ∀ k, k < 3 → smallT (tyC 8 k) := by
  intro k hk
  match k, hk with
  | 0, _ => exact ⟨by decide, by decide, by decide, by decide, by decide, by decide⟩
  | 1, _ => exact ⟨by decide, by decide, by decide, by decide, by decide, by decide⟩
  | 2, _ => exact ⟨by decide, by decide, by decide, by decide, by decide, by decide⟩
  | k + 3, hk => exact absurd hk (by omega)
theorem lay_9_0 : u_lay RX9 TX9 0 ∈ gT := gT_mem (i := 93) (by decide +kernel) (by decide +kernel)
theorem lay_9_1 : u_lay RX9 TX9 1 ∈ gT := gT_mem (i := 95) (by decide +kernel) (by decide +kernel)
theorem lays_9 : ∀ w ∈ wsX90, w ∈ gT := by
  intro w hw
  obtain ⟨k, hk, rfl⟩ := List.mem_map.mp hw
  have hk := List.mem_range.mp hk
  match k, hk with
  | 0, _ => exact lay_9_0
  | 1, _ => exact lay_9_1
  | k + 2, hk => exact absurd hk (by omega)
theorem cf_9 : ClF 9 RX9 TX9 2 := ⟨by decide, rfl, tyX9_ok, nmX9, lays_9⟩
theorem sm_9 : ∀ k, k < 2 → smallT (tyC 9 k) := by
  intro k hk
  match k, hk with
  | 0, _ => exact ⟨by decide, by decide, by decide, by decide, by decide, by decide⟩
  | 1, _ => exact ⟨by decide, by decide, by decide, by decide, by decide, by decide⟩
  | k + 2, hk => exact absurd hk (by omega)
theorem lay_10_0 : u_lay RX10 TX10 0 ∈ gT := gT_mem (i := 352) (by decide +kernel) (by decide +kernel)
theorem lay_10_1 : u_lay RX10 TX10 1 ∈ gT := gT_mem (i := 354) (by decide +kernel) (by decide +kernel)
theorem lay_10_2 : u_lay RX10 TX10 2 ∈ gT := gT_mem (i := 356) (by decide +kernel) (by decide +kernel)
theorem lay_10_3 : u_lay RX10 TX10 3 ∈ gT := gT_mem (i := 358) (by decide +kernel) (by decide +kernel)
theorem lay_10_4 : u_lay RX10 TX10 4 ∈ gT := gT_mem (i := 360) (by decide +kernel) (by decide +kernel)
theorem lay_10_5 : u_lay RX10 TX10 5 ∈ gT := gT_mem (i := 362) (by decide +kernel) (by decide +kernel)
theorem lay_10_6 : u_lay RX10 TX10 6 ∈ gT := gT_mem (i := 364) (by decide +kernel) (by decide +kernel)
theorem lay_10_7 : u_lay RX10 TX10 7 ∈ gT := gT_mem (i := 366) (by decide +kernel) (by decide +kernel)
theorem lay_10_8 : u_lay RX10 TX10 8 ∈ gT := gT_mem (i := 368) (by decide +kernel) (by decide +kernel)
theorem lay_10_9 : u_lay RX10 TX10 9 ∈ gT := gT_mem (i := 370) (by decide +kernel) (by decide +kernel)
theorem lay_10_10 : u_lay RX10 TX10 10 ∈ gT := gT_mem (i := 372) (by decide +kernel) (by decide +kernel)
theorem lay_10_11 : u_lay RX10 TX10 11 ∈ gT := gT_mem (i := 374) (by decide +kernel) (by decide +kernel)
theorem lays_10 : ∀ w ∈ wsX100, w ∈ gT := by
  intro w hw
  obtain ⟨k, hk, rfl⟩ := List.mem_map.mp hw
  have hk := List.mem_range.mp hk
  match k, hk with
  | 0, _ => exact lay_10_0
  | 1, _ => exact lay_10_1
  | 2, _ => exact lay_10_2
  | 3, _ => exact lay_10_3
  | 4, _ => exact lay_10_4
  | 5, _ => exact lay_10_5
  | 6, _ => exact lay_10_6
  | 7, _ => exact lay_10_7
  | 8, _ => exact lay_10_8
  | 9, _ => exact lay_10_9
  | 10, _ => exact lay_10_10
  | 11, _ => exact lay_10_11
  | k + 12, hk => exact absurd hk (by omega)
theorem cf_10 : ClF 10 RX10 TX10 12 := ⟨by decide, rfl, tyX10_ok, nmX10, lays_10⟩
theorem sm_10 : ∀ k, k < 12 → smallT (tyC 10 k) := by
  intro k hk
  match k, hk with
  | 0, _ => exact ⟨by decide, by decide, by decide, by decide, by decide, by decide⟩
  | 1, _ => exact ⟨by decide, by decide, by decide, by decide, by decide, by decide⟩
  | 2, _ => exact ⟨by decide, by decide, by decide, by decide, by decide, by decide⟩
  | 3, _ => exact ⟨by decide, by decide, by decide, by decide, by decide, by decide⟩
  | 4, _ => exact ⟨by decide, by decide, by decide, by decide, by decide, by decide⟩
  | 5, _ => exact ⟨by decide, by decide, by decide, by decide, by decide, by decide⟩
  | 6, _ => exact ⟨by decide, by decide, by decide, by decide, by decide, by decide⟩
  | 7, _ => exact ⟨by decide, by decide, by decide, by decide, by decide, by decide⟩
  | 8, _ => exact ⟨by decide, by decide, by decide, by decide, by decide, by decide⟩
  | 9, _ => exact ⟨by decide, by decide, by decide, by decide, by decide, by decide⟩
  | 10, _ => exact ⟨by decide, by decide, by decide, by decide, by decide, by decide⟩
  | 11, _ => exact ⟨by decide, by decide, by decide, by decide, by decide, by decide⟩
  | k + 12, hk => exact absurd hk (by omega)
theorem lay_11_0 : u_lay RX11 TX11 0 ∈ gT := gT_mem (i := 857) (by decide +kernel) (by decide +kernel)
theorem lay_11_1 : u_lay RX11 TX11 1 ∈ gT := gT_mem (i := 859) (by decide +kernel) (by decide +kernel)
theorem lay_11_2 : u_lay RX11 TX11 2 ∈ gT := gT_mem (i := 861) (by decide +kernel) (by decide +kernel)
theorem lay_11_3 : u_lay RX11 TX11 3 ∈ gT := gT_mem (i := 863) (by decide +kernel) (by decide +kernel)
theorem lay_11_4 : u_lay RX11 TX11 4 ∈ gT := gT_mem (i := 865) (by decide +kernel) (by decide +kernel)
theorem lay_11_5 : u_lay RX11 TX11 5 ∈ gT := gT_mem (i := 867) (by decide +kernel) (by decide +kernel)
theorem lay_11_6 : u_lay RX11 TX11 6 ∈ gT := gT_mem (i := 869) (by decide +kernel) (by decide +kernel)
theorem lay_11_7 : u_lay RX11 TX11 7 ∈ gT := gT_mem (i := 871) (by decide +kernel) (by decide +kernel)
theorem lay_11_8 : u_lay RX11 TX11 8 ∈ gT := gT_mem (i := 873) (by decide +kernel) (by decide +kernel)
theorem lay_11_9 : u_lay RX11 TX11 9 ∈ gT := gT_mem (i := 875) (by decide +kernel) (by decide +kernel)
theorem lay_11_10 : u_lay RX11 TX11 10 ∈ gT := gT_mem (i := 877) (by decide +kernel) (by decide +kernel)
theorem lay_11_11 : u_lay RX11 TX11 11 ∈ gT := gT_mem (i := 879) (by decide +kernel) (by decide +kernel)
theorem lay_11_12 : u_lay RX11 TX11 12 ∈ gT := gT_mem (i := 881) (by decide +kernel) (by decide +kernel)
theorem lay_11_13 : u_lay RX11 TX11 13 ∈ gT := gT_mem (i := 883) (by decide +kernel) (by decide +kernel)
theorem lay_11_14 : u_lay RX11 TX11 14 ∈ gT := gT_mem (i := 885) (by decide +kernel) (by decide +kernel)
theorem lay_11_15 : u_lay RX11 TX11 15 ∈ gT := gT_mem (i := 887) (by decide +kernel) (by decide +kernel)
theorem lay_11_16 : u_lay RX11 TX11 16 ∈ gT := gT_mem (i := 889) (by decide +kernel) (by decide +kernel)
theorem lay_11_17 : u_lay RX11 TX11 17 ∈ gT := gT_mem (i := 891) (by decide +kernel) (by decide +kernel)
theorem lay_11_18 : u_lay RX11 TX11 18 ∈ gT := gT_mem (i := 893) (by decide +kernel) (by decide +kernel)
theorem lay_11_19 : u_lay RX11 TX11 19 ∈ gT := gT_mem (i := 895) (by decide +kernel) (by decide +kernel)
theorem lay_11_20 : u_lay RX11 TX11 20 ∈ gT := gT_mem (i := 897) (by decide +kernel) (by decide +kernel)
theorem lay_11_21 : u_lay RX11 TX11 21 ∈ gT := gT_mem (i := 899) (by decide +kernel) (by decide +kernel)
theorem lay_11_22 : u_lay RX11 TX11 22 ∈ gT := gT_mem (i := 901) (by decide +kernel) (by decide +kernel)
theorem lay_11_23 : u_lay RX11 TX11 23 ∈ gT := gT_mem (i := 903) (by decide +kernel) (by decide +kernel)
theorem lay_11_24 : u_lay RX11 TX11 24 ∈ gT := gT_mem (i := 905) (by decide +kernel) (by decide +kernel)
theorem lay_11_25 : u_lay RX11 TX11 25 ∈ gT := gT_mem (i := 907) (by decide +kernel) (by decide +kernel)
theorem lay_11_26 : u_lay RX11 TX11 26 ∈ gT := gT_mem (i := 909) (by decide +kernel) (by decide +kernel)
theorem lay_11_27 : u_lay RX11 TX11 27 ∈ gT := gT_mem (i := 911) (by decide +kernel) (by decide +kernel)
theorem lays_11 : ∀ w ∈ wsX110, w ∈ gT := by
  intro w hw
  obtain ⟨k, hk, rfl⟩ := List.mem_map.mp hw
  have hk := List.mem_range.mp hk
  match k, hk with
  | 0, _ => exact lay_11_0
  | 1, _ => exact lay_11_1
  | 2, _ => exact lay_11_2
  | 3, _ => exact lay_11_3
  | 4, _ => exact lay_11_4
  | 5, _ => exact lay_11_5
  | 6, _ => exact lay_11_6
  | 7, _ => exact lay_11_7
  | 8, _ => exact lay_11_8
  | 9, _ => exact lay_11_9
  | 10, _ => exact lay_11_10
  | 11, _ => exact lay_11_11
  | 12, _ => exact lay_11_12
  | 13, _ => exact lay_11_13
  | 14, _ => exact lay_11_14
  | 15, _ => exact lay_11_15
  | 16, _ => exact lay_11_16
  | 17, _ => exact lay_11_17
  | 18, _ => exact lay_11_18
  | 19, _ => exact lay_11_19
  | 20, _ => exact lay_11_20
  | 21, _ => exact lay_11_21
  | 22, _ => exact lay_11_22
  | 23, _ => exact lay_11_23
  | 24, _ => exact lay_11_24
  | 25, _ => exact lay_11_25
  | 26, _ => exact lay_11_26
  | 27, _ => exact lay_11_27
  | k + 28, hk => exact absurd hk (by omega)
theorem cf_11 : ClF 11 RX11 TX11 28 := ⟨by decide, rfl, tyX11_ok, nmX11, lays_11⟩
theorem sm_11 : ∀ k, k < 28 → smallT (tyC 11 k) := by
  intro k hk
  match k, hk with
  | 0, _ => exact ⟨by decide, by decide, by decide, by decide, by decide, by decide⟩
  | 1, _ => exact ⟨by decide, by decide, by decide, by decide, by decide, by decide⟩
  | 2, _ => exact ⟨by decide, by decide, by decide, by decide, by decide, by decide⟩
  | 3, _ => exact ⟨by decide, by decide, by decide, by decide, by decide, by decide⟩
  | 4, _ => exact ⟨by decide, by decide, by decide, by decide, by decide, by decide⟩
  | 5, _ => exact ⟨by decide, by decide, by decide, by decide, by decide, by decide⟩
  | 6, _ => exact ⟨by decide, by decide, by decide, by decide, by decide, by decide⟩
  | 7, _ => exact ⟨by decide, by decide, by decide, by decide, by decide, by decide⟩
  | 8, _ => exact ⟨by decide, by decide, by decide, by decide, by decide, by decide⟩
  | 9, _ => exact ⟨by decide, by decide, by decide, by decide, by decide, by decide⟩
  | 10, _ => exact ⟨by decide, by decide, by decide, by decide, by decide, by decide⟩
  | 11, _ => exact ⟨by decide, by decide, by decide, by decide, by decide, by decide⟩
  | 12, _ => exact ⟨by decide, by decide, by decide, by decide, by decide, by decide⟩
  | 13, _ => exact ⟨by decide, by decide, by decide, by decide, by decide, by decide⟩
  | 14, _ => exact ⟨by decide, by decide, by decide, by decide, by decide, by decide⟩
  | 15, _ => exact ⟨by decide, by decide, by decide, by decide, by decide, by decide⟩
  | 16, _ => exact ⟨by decide, by decide, by decide, by decide, by decide, by decide⟩
  | 17, _ => exact ⟨by decide, by decide, by decide, by decide, by decide, by decide⟩
  | 18, _ => exact ⟨by decide, by decide, by decide, by decide, by decide, by decide⟩
  | 19, _ => exact ⟨by decide, by decide, by decide, by decide, by decide, by decide⟩
  | 20, _ => exact ⟨by decide, by decide, by decide, by decide, by decide, by decide⟩
  | 21, _ => exact ⟨by decide, by decide, by decide, by decide, by decide, by decide⟩
  | 22, _ => exact ⟨by decide, by decide, by decide, by decide, by decide, by decide⟩
  | 23, _ => exact ⟨by decide, by decide, by decide, by decide, by decide, by decide⟩
  | 24, _ => exact ⟨by decide, by decide, by decide, by decide, by decide, by decide⟩
  | 25, _ => exact ⟨by decide, by decide, by decide, by decide, by decide, by decide⟩
  | 26, _ => exact ⟨by decide, by decide, by decide, by decide, by decide, by decide⟩
  | 27, _ => exact ⟨by decide, by decide, by decide, by decide, by decide, by decide⟩
  | k + 28, hk => exact absurd hk (by omega)
theorem St_0 : St 0 10 12 := St_dec (by decide +kernel)
theorem St_1 : St 1 9 2 := St_dec (by decide +kernel)
theorem St_2 : St 2 20 150 := St_dec (by decide +kernel)
theorem St_3 : St 3 4 4 := St_dec (by decide +kernel)
theorem St_4 : St 4 3 4 := St_dec (by decide +kernel)
theorem St_5 : St 5 1 6 := St_dec (by decide +kernel)
theorem St_6 : St 6 23 8 := St_dec (by decide +kernel)
theorem St_7 : St 7 3 4 := St_dec (by decide +kernel)
theorem St_8 : St 8 1 6 := St_dec (by decide +kernel)
theorem St_9 : St 9 23 8 := St_dec (by decide +kernel)
theorem St_10 : St 10 6 8 := St_dec (by decide +kernel)
theorem St_11 : St 11 8 3 := St_dec (by decide +kernel)
theorem St_13 : St 13 8 3 := St_dec (by decide +kernel)
theorem St_15 : St 15 8 3 := St_dec (by decide +kernel)
theorem St_17 : St 17 5 1 := St_dec (by decide +kernel)
theorem St_18 : St 18 7 5 := St_dec (by decide +kernel)
theorem St_47 : St 47 7 5 := St_dec (by decide +kernel)
theorem St_76 : St 76 2 4 := St_dec (by decide +kernel)
theorem St_77 : St 77 7 5 := St_dec (by decide +kernel)
theorem St_106 : St 106 24 8 := St_dec (by decide +kernel)
theorem St_339 : St 339 7 5 := St_dec (by decide +kernel)
theorem St_368 : St 368 7 5 := St_dec (by decide +kernel)
theorem St_397 : St 397 8 3 := St_dec (by decide +kernel)
theorem St_399 : St 399 11 28 := St_dec (by decide +kernel)
theorem St_400 : St 400 20 48 := St_dec (by decide +kernel)
theorem St_401 : St 401 20 48 := St_dec (by decide +kernel)
theorem St_402 : St 402 20 163 := St_dec (by decide +kernel)
theorem St_403 : St 403 20 1304 := St_dec (by decide +kernel)
theorem St_404 : St 404 20 326 := St_dec (by decide +kernel)
theorem St_405 : St 405 21 2 := St_dec (by decide +kernel)
theorem St_406 : St 406 20 163 := St_dec (by decide +kernel)
theorem St_407 : St 407 20 6 := St_dec (by decide +kernel)
theorem St_408 : St 408 20 6 := St_dec (by decide +kernel)
theorem St_409 : St 409 20 6 := St_dec (by decide +kernel)
theorem St_410 : St 410 20 150 := St_dec (by decide +kernel)
theorem St_411 : St 411 21 800 := St_dec (by decide +kernel)
theorem St_412 : St 412 20 36 := St_dec (by decide +kernel)
theorem St_413 : St 413 20 5 := St_dec (by decide +kernel)
theorem St_414 : St 414 20 5 := St_dec (by decide +kernel)
theorem fx_10_0 {n N : Nat} {μ : Mem} {a : Int} (f : FX n μ) (h : St a 10 N) : μ a 0 = 1 := by rw [FX_at f h (by decide)]; unfold FV; rw [h.2.2]; rfl
theorem fx_10_1 {n N : Nat} {μ : Mem} {a : Int} (f : FX n μ) (h : St a 10 N) : μ a 1 = 3 := by rw [FX_at f h (by decide)]; unfold FV; rw [h.2.2]; rfl
theorem fx_10_2 {n N : Nat} {μ : Mem} {a : Int} (f : FX n μ) (h : St a 10 N) : μ a 2 = 7 := by rw [FX_at f h (by decide)]; unfold FV; rw [h.2.2]; rfl
theorem fx_10_3 {n N : Nat} {μ : Mem} {a : Int} (f : FX n μ) (h : St a 10 N) : μ a 3 = 10 := by rw [FX_at f h (by decide)]; unfold FV; rw [h.2.2]; rfl
theorem fx_10_4 {n N : Nat} {μ : Mem} {a : Int} (f : FX n μ) (h : St a 10 N) : μ a 4 = 17 := by rw [FX_at f h (by decide)]; unfold FV; rw [h.2.2]; rfl
theorem fx_10_5 {n N : Nat} {μ : Mem} {a : Int} (f : FX n μ) (h : St a 10 N) : μ a 5 = 18 := by rw [FX_at f h (by decide)]; unfold FV; rw [h.2.2]; rfl
theorem fx_10_6 {n N : Nat} {μ : Mem} {a : Int} (f : FX n μ) (h : St a 10 N) : μ a 6 = 47 := by rw [FX_at f h (by decide)]; unfold FV; rw [h.2.2]; rfl
theorem fx_10_7 {n N : Nat} {μ : Mem} {a : Int} (f : FX n μ) (h : St a 10 N) : μ a 7 = 76 := by rw [FX_at f h (by decide)]; unfold FV; rw [h.2.2]; rfl
theorem fx_10_8 {n N : Nat} {μ : Mem} {a : Int} (f : FX n μ) (h : St a 10 N) : μ a 8 = 339 := by rw [FX_at f h (by decide)]; unfold FV; rw [h.2.2]; rfl
theorem fx_10_9 {n N : Nat} {μ : Mem} {a : Int} (f : FX n μ) (h : St a 10 N) : μ a 9 = 368 := by rw [FX_at f h (by decide)]; unfold FV; rw [h.2.2]; rfl
theorem fx_10_10 {n N : Nat} {μ : Mem} {a : Int} (f : FX n μ) (h : St a 10 N) : μ a 10 = 397 := by rw [FX_at f h (by decide)]; unfold FV; rw [h.2.2]; rfl
theorem fx_11_3 {n N : Nat} {μ : Mem} {a : Int} (f : FX n μ) (h : St a 11 N) : μ a 3 = 400 := by rw [FX_at f h (by decide)]; unfold FV; rw [h.2.2]; rfl
theorem fx_11_6 {n N : Nat} {μ : Mem} {a : Int} (f : FX n μ) (h : St a 11 N) : μ a 6 = 401 := by rw [FX_at f h (by decide)]; unfold FV; rw [h.2.2]; rfl
theorem fx_11_7 {n N : Nat} {μ : Mem} {a : Int} (f : FX n μ) (h : St a 11 N) : μ a 7 = 402 := by rw [FX_at f h (by decide)]; unfold FV; rw [h.2.2]; rfl
theorem fx_11_9 {n N : Nat} {μ : Mem} {a : Int} (f : FX n μ) (h : St a 11 N) : μ a 9 = 403 := by rw [FX_at f h (by decide)]; unfold FV; rw [h.2.2]; rfl
theorem fx_11_10 {n N : Nat} {μ : Mem} {a : Int} (f : FX n μ) (h : St a 11 N) : μ a 10 = 404 := by rw [FX_at f h (by decide)]; unfold FV; rw [h.2.2]; rfl
theorem fx_11_11 {n N : Nat} {μ : Mem} {a : Int} (f : FX n μ) (h : St a 11 N) : μ a 11 = 405 := by rw [FX_at f h (by decide)]; unfold FV; rw [h.2.2]; rfl
theorem fx_11_12 {n N : Nat} {μ : Mem} {a : Int} (f : FX n μ) (h : St a 11 N) : μ a 12 = 406 := by rw [FX_at f h (by decide)]; unfold FV; rw [h.2.2]; rfl
theorem fx_11_14 {n N : Nat} {μ : Mem} {a : Int} (f : FX n μ) (h : St a 11 N) : μ a 14 = 407 := by rw [FX_at f h (by decide)]; unfold FV; rw [h.2.2]; rfl
theorem fx_11_15 {n N : Nat} {μ : Mem} {a : Int} (f : FX n μ) (h : St a 11 N) : μ a 15 = 408 := by rw [FX_at f h (by decide)]; unfold FV; rw [h.2.2]; rfl
theorem fx_11_16 {n N : Nat} {μ : Mem} {a : Int} (f : FX n μ) (h : St a 11 N) : μ a 16 = 409 := by rw [FX_at f h (by decide)]; unfold FV; rw [h.2.2]; rfl
theorem fx_11_18 {n N : Nat} {μ : Mem} {a : Int} (f : FX n μ) (h : St a 11 N) : μ a 18 = 410 := by rw [FX_at f h (by decide)]; unfold FV; rw [h.2.2]; rfl
theorem fx_11_22 {n N : Nat} {μ : Mem} {a : Int} (f : FX n μ) (h : St a 11 N) : μ a 22 = 411 := by rw [FX_at f h (by decide)]; unfold FV; rw [h.2.2]; rfl
theorem fx_11_23 {n N : Nat} {μ : Mem} {a : Int} (f : FX n μ) (h : St a 11 N) : μ a 23 = 412 := by rw [FX_at f h (by decide)]; unfold FV; rw [h.2.2]; rfl
theorem fx_11_25 {n N : Nat} {μ : Mem} {a : Int} (f : FX n μ) (h : St a 11 N) : μ a 25 = 413 := by rw [FX_at f h (by decide)]; unfold FV; rw [h.2.2]; rfl
theorem fx_11_26 {n N : Nat} {μ : Mem} {a : Int} (f : FX n μ) (h : St a 11 N) : μ a 26 = 414 := by rw [FX_at f h (by decide)]; unfold FV; rw [h.2.2]; rfl
def Y_X0_init : MD := (yX0_init, cX0_init, 2, none, 2, 42, 2, 803)
theorem mc_X0_init : MC Y_X0_init 1 := ⟨gT_mem (i := 251) (by decide +kernel) (by decide +kernel), gT_mem (i := 71) (by decide +kernel) (by decide +kernel), by decide +kernel⟩
theorem mi_X0_init : Cond.instanceMethod yX0_init ∈ gT := gT_mem (i := 250) (by decide +kernel) (by decide +kernel)
def Y_X0_start : MD := (yX0_start, cX0_start, 6, none, 2, 41, 0, 0)
theorem mc_X0_start : MC Y_X0_start 5 := ⟨gT_mem (i := 535) (by decide +kernel) (by decide +kernel), gT_mem (i := 71) (by decide +kernel) (by decide +kernel), by decide +kernel⟩
theorem mi_X0_start : Cond.instanceMethod yX0_start ∈ gT := gT_mem (i := 533) (by decide +kernel) (by decide +kernel)
theorem ms_X0_start : Cond.selects RX0 yX0_start yX0_start ∈ gT := gT_mem (i := 534) (by decide +kernel) (by decide +kernel)
def Y_X0_copyFrom : MD := (yX0_copyFrom, cX0_copyFrom, 2, none, 3, 69, 0, 0)
theorem mc_X0_copyFrom : MC Y_X0_copyFrom 1 := ⟨gT_mem (i := 531) (by decide +kernel) (by decide +kernel), gT_mem (i := 71) (by decide +kernel) (by decide +kernel), by decide +kernel⟩
theorem mi_X0_copyFrom : Cond.instanceMethod yX0_copyFrom ∈ gT := gT_mem (i := 529) (by decide +kernel) (by decide +kernel)
theorem ms_X0_copyFrom : Cond.selects RX0 yX0_copyFrom yX0_copyFrom ∈ gT := gT_mem (i := 530) (by decide +kernel) (by decide +kernel)
def Y_X0_standing : MD := (yX0_standing, cX0_standing, 2, (some .int), 2, 43, 0, 0)
theorem mc_X0_standing : MC Y_X0_standing 1 := ⟨gT_mem (i := 571) (by decide +kernel) (by decide +kernel), gT_mem (i := 71) (by decide +kernel) (by decide +kernel), by decide +kernel⟩
theorem mi_X0_standing : Cond.instanceMethod yX0_standing ∈ gT := gT_mem (i := 569) (by decide +kernel) (by decide +kernel)
theorem ms_X0_standing : Cond.selects RX0 yX0_standing yX0_standing ∈ gT := gT_mem (i := 570) (by decide +kernel) (by decide +kernel)
def Y_X0_lastNode : MD := (yX0_lastNode, cX0_lastNode, 1, (some .int), 1, 23, 0, 0)
theorem mc_X0_lastNode : MC Y_X0_lastNode 0 := ⟨gT_mem (i := 575) (by decide +kernel) (by decide +kernel), gT_mem (i := 71) (by decide +kernel) (by decide +kernel), by decide +kernel⟩
theorem mi_X0_lastNode : Cond.instanceMethod yX0_lastNode ∈ gT := gT_mem (i := 573) (by decide +kernel) (by decide +kernel)
theorem ms_X0_lastNode : Cond.selects RX0 yX0_lastNode yX0_lastNode ∈ gT := gT_mem (i := 574) (by decide +kernel) (by decide +kernel)
def Y_X0_lastThere : MD := (yX0_lastThere, cX0_lastThere, 1, (some .int), 1, 23, 0, 0)
theorem mc_X0_lastThere : MC Y_X0_lastThere 0 := ⟨gT_mem (i := 603) (by decide +kernel) (by decide +kernel), gT_mem (i := 71) (by decide +kernel) (by decide +kernel), by decide +kernel⟩
theorem mi_X0_lastThere : Cond.instanceMethod yX0_lastThere ∈ gT := gT_mem (i := 601) (by decide +kernel) (by decide +kernel)
theorem ms_X0_lastThere : Cond.selects RX0 yX0_lastThere yX0_lastThere ∈ gT := gT_mem (i := 602) (by decide +kernel) (by decide +kernel)
def Y_X0_property : MD := (yX0_property, cX0_property, 3, (some .int), 3, 64, 0, 0)
theorem mc_X0_property : MC Y_X0_property 2 := ⟨gT_mem (i := 742) (by decide +kernel) (by decide +kernel), gT_mem (i := 71) (by decide +kernel) (by decide +kernel), by decide +kernel⟩
theorem mi_X0_property : Cond.instanceMethod yX0_property ∈ gT := gT_mem (i := 740) (by decide +kernel) (by decide +kernel)
theorem ms_X0_property : Cond.selects RX0 yX0_property yX0_property ∈ gT := gT_mem (i := 741) (by decide +kernel) (by decide +kernel)
def Y_X0_drop : MD := (yX0_drop, cX0_drop, 2, none, 3, 65, 0, 0)
theorem mc_X0_drop : MC Y_X0_drop 1 := ⟨gT_mem (i := 673) (by decide +kernel) (by decide +kernel), gT_mem (i := 71) (by decide +kernel) (by decide +kernel), by decide +kernel⟩
theorem mi_X0_drop : Cond.instanceMethod yX0_drop ∈ gT := gT_mem (i := 671) (by decide +kernel) (by decide +kernel)
theorem ms_X0_drop : Cond.selects RX0 yX0_drop yX0_drop ∈ gT := gT_mem (i := 672) (by decide +kernel) (by decide +kernel)
def Y_X0_giveUpHopsToCome : MD := (yX0_giveUpHopsToCome, cX0_giveUpHopsToCome, 2, none, 2, 44, 0, 0)
theorem mc_X0_giveUpHopsToCome : MC Y_X0_giveUpHopsToCome 1 := ⟨gT_mem (i := 594) (by decide +kernel) (by decide +kernel), gT_mem (i := 71) (by decide +kernel) (by decide +kernel), by decide +kernel⟩
theorem mi_X0_giveUpHopsToCome : Cond.instanceMethod yX0_giveUpHopsToCome ∈ gT := gT_mem (i := 592) (by decide +kernel) (by decide +kernel)
theorem ms_X0_giveUpHopsToCome : Cond.selects RX0 yX0_giveUpHopsToCome yX0_giveUpHopsToCome ∈ gT := gT_mem (i := 593) (by decide +kernel) (by decide +kernel)
def Y_X0_hopsOnTheirWay : MD := (yX0_hopsOnTheirWay, cX0_hopsOnTheirWay, 2, (some .int), 1, 23, 0, 0)
theorem mc_X0_hopsOnTheirWay : MC Y_X0_hopsOnTheirWay 1 := ⟨gT_mem (i := 598) (by decide +kernel) (by decide +kernel), gT_mem (i := 71) (by decide +kernel) (by decide +kernel), by decide +kernel⟩
theorem mi_X0_hopsOnTheirWay : Cond.instanceMethod yX0_hopsOnTheirWay ∈ gT := gT_mem (i := 597) (by decide +kernel) (by decide +kernel)
theorem ms_X0_hopsOnTheirWay : Cond.selects RX0 yX0_hopsOnTheirWay yX0_hopsOnTheirWay ∈ gT := gT_mem (i := 11) (by decide +kernel) (by decide +kernel)
def Y_X0_arrive : MD := (yX0_arrive, cX0_arrive, 3, none, 3, 63, 0, 0)
theorem mc_X0_arrive : MC Y_X0_arrive 1 := ⟨gT_mem (i := 686) (by decide +kernel) (by decide +kernel), gT_mem (i := 71) (by decide +kernel) (by decide +kernel), by decide +kernel⟩
theorem mi_X0_arrive : Cond.instanceMethod yX0_arrive ∈ gT := gT_mem (i := 684) (by decide +kernel) (by decide +kernel)
theorem ms_X0_arrive : Cond.selects RX0 yX0_arrive yX0_arrive ∈ gT := gT_mem (i := 685) (by decide +kernel) (by decide +kernel)
def Y_X0_loses : MD := (yX0_loses, cX0_loses, 4, (some .boolean), 2, 44, 0, 0)
theorem mc_X0_loses : MC Y_X0_loses 2 := ⟨gT_mem (i := 703) (by decide +kernel) (by decide +kernel), gT_mem (i := 71) (by decide +kernel) (by decide +kernel), by decide +kernel⟩
theorem mi_X0_loses : Cond.instanceMethod yX0_loses ∈ gT := gT_mem (i := 701) (by decide +kernel) (by decide +kernel)
theorem ms_X0_loses : Cond.selects RX0 yX0_loses yX0_loses ∈ gT := gT_mem (i := 702) (by decide +kernel) (by decide +kernel)
def Y_X0_takes : MD := (yX0_takes, cX0_takes, 4, (some .boolean), 1, 23, 0, 0)
theorem mc_X0_takes : MC Y_X0_takes 2 := ⟨gT_mem (i := 761) (by decide +kernel) (by decide +kernel), gT_mem (i := 71) (by decide +kernel) (by decide +kernel), by decide +kernel⟩
theorem mi_X0_takes : Cond.instanceMethod yX0_takes ∈ gT := gT_mem (i := 759) (by decide +kernel) (by decide +kernel)
theorem ms_X0_takes : Cond.selects RX0 yX0_takes yX0_takes ∈ gT := gT_mem (i := 760) (by decide +kernel) (by decide +kernel)
def Y_X0_standsInTheWayOf : MD := (yX0_standsInTheWayOf, cX0_standsInTheWayOf, 5, (some .boolean), 2, 44, 0, 0)
theorem mc_X0_standsInTheWayOf : MC Y_X0_standsInTheWayOf 2 := ⟨gT_mem (i := 656) (by decide +kernel) (by decide +kernel), gT_mem (i := 71) (by decide +kernel) (by decide +kernel), by decide +kernel⟩
theorem mi_X0_standsInTheWayOf : Cond.instanceMethod yX0_standsInTheWayOf ∈ gT := gT_mem (i := 654) (by decide +kernel) (by decide +kernel)
theorem ms_X0_standsInTheWayOf : Cond.selects RX0 yX0_standsInTheWayOf yX0_standsInTheWayOf ∈ gT := gT_mem (i := 655) (by decide +kernel) (by decide +kernel)
def Y_X1_init : MD := (yX1_init, cX1_init, 7, none, 1, 20, 0, 0)
theorem mc_X1_init : MC Y_X1_init 6 := ⟨gT_mem (i := 115) (by decide +kernel) (by decide +kernel), gT_mem (i := 65) (by decide +kernel) (by decide +kernel), by decide +kernel⟩
theorem mi_X1_init : Cond.instanceMethod yX1_init ∈ gT := gT_mem (i := 114) (by decide +kernel) (by decide +kernel)
def Y_X1_ticksFor : MD := (yX1_ticksFor, cX1_ticksFor, 2, (some .int), 0, 0, 0, 0)
theorem mc_X1_ticksFor : MC Y_X1_ticksFor 1 := ⟨gT_mem (i := 638) (by decide +kernel) (by decide +kernel), gT_mem (i := 65) (by decide +kernel) (by decide +kernel), by decide +kernel⟩
theorem mi_X1_ticksFor : Cond.instanceMethod yX1_ticksFor ∈ gT := gT_mem (i := 636) (by decide +kernel) (by decide +kernel)
theorem ms_X1_ticksFor : Cond.selects RX1 yX1_ticksFor yX1_ticksFor ∈ gT := gT_mem (i := 637) (by decide +kernel) (by decide +kernel)
def Y_X1_property : MD := (yX1_property, cX1_property, 2, (some .int), 0, 0, 0, 0)
theorem mc_X1_property : MC Y_X1_property 1 := ⟨gT_mem (i := 499) (by decide +kernel) (by decide +kernel), gT_mem (i := 65) (by decide +kernel) (by decide +kernel), by decide +kernel⟩
theorem mi_X1_property : Cond.instanceMethod yX1_property ∈ gT := gT_mem (i := 497) (by decide +kernel) (by decide +kernel)
theorem ms_X1_property : Cond.selects RX1 yX1_property yX1_property ∈ gT := gT_mem (i := 498) (by decide +kernel) (by decide +kernel)
def Y_X2_init : MD := (yX2_init, cX2_init, 3, none, 4, 85, 262, 65897)
theorem mc_X2_init : MC Y_X2_init 1 := ⟨gT_mem (i := 319) (by decide +kernel) (by decide +kernel), gT_mem (i := 72) (by decide +kernel) (by decide +kernel), by decide +kernel⟩
theorem mi_X2_init : Cond.instanceMethod yX2_init ∈ gT := gT_mem (i := 318) (by decide +kernel) (by decide +kernel)
def Y_X2_forgetAll : MD := (yX2_forgetAll, cX2_forgetAll, 1, none, 0, 0, 0, 0)
theorem mc_X2_forgetAll : MC Y_X2_forgetAll 0 := ⟨gT_mem (i := 477) (by decide +kernel) (by decide +kernel), gT_mem (i := 72) (by decide +kernel) (by decide +kernel), by decide +kernel⟩
theorem mi_X2_forgetAll : Cond.instanceMethod yX2_forgetAll ∈ gT := gT_mem (i := 475) (by decide +kernel) (by decide +kernel)
theorem ms_X2_forgetAll : Cond.selects RX2 yX2_forgetAll yX2_forgetAll ∈ gT := gT_mem (i := 476) (by decide +kernel) (by decide +kernel)
def Y_X2_remember : MD := (yX2_remember, cX2_remember, 2, none, 5, 112, 0, 0)
theorem mc_X2_remember : MC Y_X2_remember 1 := ⟨gT_mem (i := 515) (by decide +kernel) (by decide +kernel), gT_mem (i := 72) (by decide +kernel) (by decide +kernel), by decide +kernel⟩
theorem mi_X2_remember : Cond.instanceMethod yX2_remember ∈ gT := gT_mem (i := 513) (by decide +kernel) (by decide +kernel)
theorem ms_X2_remember : Cond.selects RX2 yX2_remember yX2_remember ∈ gT := gT_mem (i := 514) (by decide +kernel) (by decide +kernel)
def Y_X2_takeBack : MD := (yX2_takeBack, cX2_takeBack, 2, none, 5, 112, 0, 0)
theorem mc_X2_takeBack : MC Y_X2_takeBack 1 := ⟨gT_mem (i := 734) (by decide +kernel) (by decide +kernel), gT_mem (i := 72) (by decide +kernel) (by decide +kernel), by decide +kernel⟩
theorem mi_X2_takeBack : Cond.instanceMethod yX2_takeBack ∈ gT := gT_mem (i := 732) (by decide +kernel) (by decide +kernel)
theorem ms_X2_takeBack : Cond.selects RX2 yX2_takeBack yX2_takeBack ∈ gT := gT_mem (i := 733) (by decide +kernel) (by decide +kernel)
def Y_X2_slotAt : MD := (yX2_slotAt, cX2_slotAt, 3, (some (.object "ContactWays$Situation")), 0, 0, 0, 0)
theorem mc_X2_slotAt : MC Y_X2_slotAt 1 := ⟨gT_mem (i := 519) (by decide +kernel) (by decide +kernel), gT_mem (i := 72) (by decide +kernel) (by decide +kernel), by decide +kernel⟩
theorem mi_X2_slotAt : Cond.instanceMethod yX2_slotAt ∈ gT := gT_mem (i := 518) (by decide +kernel) (by decide +kernel)
theorem ms_X2_slotAt : Cond.selects RX2 yX2_slotAt yX2_slotAt ∈ gT := gT_mem (i := 8) (by decide +kernel) (by decide +kernel)
def Y_X3_init : MD := (yX3_init, cX3_init, 1, none, 2, 46, 2, 14)
theorem mc_X3_init : MC Y_X3_init 0 := ⟨gT_mem (i := 109) (by decide +kernel) (by decide +kernel), gT_mem (i := 64) (by decide +kernel) (by decide +kernel), by decide +kernel⟩
theorem mi_X3_init : Cond.instanceMethod yX3_init ∈ gT := gT_mem (i := 108) (by decide +kernel) (by decide +kernel)
def Y_X3_reset : MD := (yX3_reset, cX3_reset, 1, none, 0, 0, 0, 0)
theorem mc_X3_reset : MC Y_X3_reset 0 := ⟨gT_mem (i := 411) (by decide +kernel) (by decide +kernel), gT_mem (i := 64) (by decide +kernel) (by decide +kernel), by decide +kernel⟩
theorem mi_X3_reset : Cond.instanceMethod yX3_reset ∈ gT := gT_mem (i := 409) (by decide +kernel) (by decide +kernel)
theorem ms_X3_reset : Cond.selects RX3 yX3_reset yX3_reset ∈ gT := gT_mem (i := 410) (by decide +kernel) (by decide +kernel)
def Y_X3_hasNode : MD := (yX3_hasNode, cX3_hasNode, 2, (some .boolean), 0, 0, 0, 0)
theorem mc_X3_hasNode : MC Y_X3_hasNode 1 := ⟨gT_mem (i := 511) (by decide +kernel) (by decide +kernel), gT_mem (i := 64) (by decide +kernel) (by decide +kernel), by decide +kernel⟩
theorem mi_X3_hasNode : Cond.instanceMethod yX3_hasNode ∈ gT := gT_mem (i := 509) (by decide +kernel) (by decide +kernel)
theorem ms_X3_hasNode : Cond.selects RX3 yX3_hasNode yX3_hasNode ∈ gT := gT_mem (i := 510) (by decide +kernel) (by decide +kernel)
def Y_X3_hasContact : MD := (yX3_hasContact, cX3_hasContact, 2, (some .boolean), 0, 0, 0, 0)
theorem mc_X3_hasContact : MC Y_X3_hasContact 1 := ⟨gT_mem (i := 490) (by decide +kernel) (by decide +kernel), gT_mem (i := 64) (by decide +kernel) (by decide +kernel), by decide +kernel⟩
theorem mi_X3_hasContact : Cond.instanceMethod yX3_hasContact ∈ gT := gT_mem (i := 488) (by decide +kernel) (by decide +kernel)
theorem ms_X3_hasContact : Cond.selects RX3 yX3_hasContact yX3_hasContact ∈ gT := gT_mem (i := 489) (by decide +kernel) (by decide +kernel)
def Y_X3_hasRoom : MD := (yX3_hasRoom, cX3_hasRoom, 1, (some .boolean), 0, 0, 0, 0)
theorem mc_X3_hasRoom : MC Y_X3_hasRoom 0 := ⟨gT_mem (i := 450) (by decide +kernel) (by decide +kernel), gT_mem (i := 64) (by decide +kernel) (by decide +kernel), by decide +kernel⟩
theorem mi_X3_hasRoom : Cond.instanceMethod yX3_hasRoom ∈ gT := gT_mem (i := 448) (by decide +kernel) (by decide +kernel)
theorem ms_X3_hasRoom : Cond.selects RX3 yX3_hasRoom yX3_hasRoom ∈ gT := gT_mem (i := 449) (by decide +kernel) (by decide +kernel)
def Y_X3_addContact : MD := (yX3_addContact, cX3_addContact, 2, none, 0, 0, 0, 0)
theorem mc_X3_addContact : MC Y_X3_addContact 1 := ⟨gT_mem (i := 460) (by decide +kernel) (by decide +kernel), gT_mem (i := 64) (by decide +kernel) (by decide +kernel), by decide +kernel⟩
theorem mi_X3_addContact : Cond.instanceMethod yX3_addContact ∈ gT := gT_mem (i := 458) (by decide +kernel) (by decide +kernel)
theorem ms_X3_addContact : Cond.selects RX3 yX3_addContact yX3_addContact ∈ gT := gT_mem (i := 459) (by decide +kernel) (by decide +kernel)
def Y_X3_contactAt : MD := (yX3_contactAt, cX3_contactAt, 3, (some (.object "ContactWays$Contact")), 0, 0, 0, 0)
theorem mc_X3_contactAt : MC Y_X3_contactAt 1 := ⟨gT_mem (i := 468) (by decide +kernel) (by decide +kernel), gT_mem (i := 64) (by decide +kernel) (by decide +kernel), by decide +kernel⟩
theorem mi_X3_contactAt : Cond.instanceMethod yX3_contactAt ∈ gT := gT_mem (i := 466) (by decide +kernel) (by decide +kernel)
theorem ms_X3_contactAt : Cond.selects RX3 yX3_contactAt yX3_contactAt ∈ gT := gT_mem (i := 467) (by decide +kernel) (by decide +kernel)
def Y_X3_copyFrom : MD := (yX3_copyFrom, cX3_copyFrom, 3, none, 1, 22, 0, 0)
theorem mc_X3_copyFrom : MC Y_X3_copyFrom 1 := ⟨gT_mem (i := 464) (by decide +kernel) (by decide +kernel), gT_mem (i := 64) (by decide +kernel) (by decide +kernel), by decide +kernel⟩
theorem mi_X3_copyFrom : Cond.instanceMethod yX3_copyFrom ∈ gT := gT_mem (i := 462) (by decide +kernel) (by decide +kernel)
theorem ms_X3_copyFrom : Cond.selects RX3 yX3_copyFrom yX3_copyFrom ∈ gT := gT_mem (i := 463) (by decide +kernel) (by decide +kernel)
def Y_X4_init : MD := (yX4_init, cX4_init, 2, none, 3, 66, 3, 18)
theorem mc_X4_init : MC Y_X4_init 1 := ⟨gT_mem (i := 103) (by decide +kernel) (by decide +kernel), gT_mem (i := 63) (by decide +kernel) (by decide +kernel), by decide +kernel⟩
theorem mi_X4_init : Cond.instanceMethod yX4_init ∈ gT := gT_mem (i := 102) (by decide +kernel) (by decide +kernel)
def Y_X4_readPlan : MD := (yX4_readPlan, cX4_readPlan, 2, (some .int), 5, 115, 150, 900)
theorem mc_X4_readPlan : MC Y_X4_readPlan 0 := ⟨gT_mem (i := 407) (by decide +kernel) (by decide +kernel), gT_mem (i := 63) (by decide +kernel) (by decide +kernel), by decide +kernel⟩
theorem mi_X4_readPlan : Cond.instanceMethod yX4_readPlan ∈ gT := gT_mem (i := 405) (by decide +kernel) (by decide +kernel)
theorem ms_X4_readPlan : Cond.selects RX4 yX4_readPlan yX4_readPlan ∈ gT := gT_mem (i := 406) (by decide +kernel) (by decide +kernel)
def Y_X4_readItem : MD := (yX4_readItem, cX4_readItem, 3, none, 4, 93, 1, 6)
theorem mc_X4_readItem : MC Y_X4_readItem 1 := ⟨gT_mem (i := 423) (by decide +kernel) (by decide +kernel), gT_mem (i := 63) (by decide +kernel) (by decide +kernel), by decide +kernel⟩
theorem mi_X4_readItem : Cond.instanceMethod yX4_readItem ∈ gT := gT_mem (i := 422) (by decide +kernel) (by decide +kernel)
theorem ms_X4_readItem : Cond.selects RX4 yX4_readItem yX4_readItem ∈ gT := gT_mem (i := 1) (by decide +kernel) (by decide +kernel)
def Y_X4_readNodes : MD := (yX4_readNodes, cX4_readNodes, 2, none, 3, 67, 0, 0)
theorem mc_X4_readNodes : MC Y_X4_readNodes 0 := ⟨gT_mem (i := 427) (by decide +kernel) (by decide +kernel), gT_mem (i := 63) (by decide +kernel) (by decide +kernel), by decide +kernel⟩
theorem mi_X4_readNodes : Cond.instanceMethod yX4_readNodes ∈ gT := gT_mem (i := 426) (by decide +kernel) (by decide +kernel)
theorem ms_X4_readNodes : Cond.selects RX4 yX4_readNodes yX4_readNodes ∈ gT := gT_mem (i := 2) (by decide +kernel) (by decide +kernel)
def Y_X4_readContact : MD := (yX4_readContact, cX4_readContact, 7, none, 3, 67, 1, 6)
theorem mc_X4_readContact : MC Y_X4_readContact 0 := ⟨gT_mem (i := 454) (by decide +kernel) (by decide +kernel), gT_mem (i := 63) (by decide +kernel) (by decide +kernel), by decide +kernel⟩
theorem mi_X4_readContact : Cond.instanceMethod yX4_readContact ∈ gT := gT_mem (i := 453) (by decide +kernel) (by decide +kernel)
theorem ms_X4_readContact : Cond.selects RX4 yX4_readContact yX4_readContact ∈ gT := gT_mem (i := 6) (by decide +kernel) (by decide +kernel)
def Y_X4_readNumber : MD := (yX4_readNumber, cX4_readNumber, 7, (some .int), 2, 41, 0, 0)
theorem mc_X4_readNumber : MC Y_X4_readNumber 3 := ⟨gT_mem (i := 431) (by decide +kernel) (by decide +kernel), gT_mem (i := 63) (by decide +kernel) (by decide +kernel), by decide +kernel⟩
theorem mi_X4_readNumber : Cond.instanceMethod yX4_readNumber ∈ gT := gT_mem (i := 430) (by decide +kernel) (by decide +kernel)
theorem ms_X4_readNumber : Cond.selects RX4 yX4_readNumber yX4_readNumber ∈ gT := gT_mem (i := 3) (by decide +kernel) (by decide +kernel)
def Y_X4_readSemicolon : MD := (yX4_readSemicolon, cX4_readSemicolon, 1, none, 2, 41, 0, 0)
theorem mc_X4_readSemicolon : MC Y_X4_readSemicolon 0 := ⟨gT_mem (i := 446) (by decide +kernel) (by decide +kernel), gT_mem (i := 63) (by decide +kernel) (by decide +kernel), by decide +kernel⟩
theorem mi_X4_readSemicolon : Cond.instanceMethod yX4_readSemicolon ∈ gT := gT_mem (i := 445) (by decide +kernel) (by decide +kernel)
theorem ms_X4_readSemicolon : Cond.selects RX4 yX4_readSemicolon yX4_readSemicolon ∈ gT := gT_mem (i := 5) (by decide +kernel) (by decide +kernel)
def Y_X4_skipBlanks : MD := (yX4_skipBlanks, cX4_skipBlanks, 1, none, 1, 21, 0, 0)
theorem mc_X4_skipBlanks : MC Y_X4_skipBlanks 0 := ⟨gT_mem (i := 415) (by decide +kernel) (by decide +kernel), gT_mem (i := 63) (by decide +kernel) (by decide +kernel), by decide +kernel⟩
theorem mi_X4_skipBlanks : Cond.instanceMethod yX4_skipBlanks ∈ gT := gT_mem (i := 414) (by decide +kernel) (by decide +kernel)
theorem ms_X4_skipBlanks : Cond.selects RX4 yX4_skipBlanks yX4_skipBlanks ∈ gT := gT_mem (i := 0) (by decide +kernel) (by decide +kernel)
def Y_X4_isDigit : MD := (yX4_isDigit, cX4_isDigit, 1, (some .boolean), 0, 0, 0, 0)
theorem mc_X4_isDigit : MC Y_X4_isDigit 1 := ⟨gT_mem (i := 434) (by decide +kernel) (by decide +kernel), gT_mem (i := 63) (by decide +kernel) (by decide +kernel), by decide +kernel⟩
theorem mt_X4_isDigit : Cond.static yX4_isDigit ∈ gT := gT_mem (i := 433) (by decide +kernel) (by decide +kernel)
def Y_X4_blame : MD := (yX4_blame, cX4_blame, 2, none, 0, 0, 0, 0)
theorem mc_X4_blame : MC Y_X4_blame 1 := ⟨gT_mem (i := 442) (by decide +kernel) (by decide +kernel), gT_mem (i := 63) (by decide +kernel) (by decide +kernel), by decide +kernel⟩
theorem mi_X4_blame : Cond.instanceMethod yX4_blame ∈ gT := gT_mem (i := 441) (by decide +kernel) (by decide +kernel)
theorem ms_X4_blame : Cond.selects RX4 yX4_blame yX4_blame ∈ gT := gT_mem (i := 4) (by decide +kernel) (by decide +kernel)
def Y_X5_init : MD := (yX5_init, cX5_init, 2, none, 1, 20, 0, 0)
theorem mc_X5_init : MC Y_X5_init 1 := ⟨gT_mem (i := 235) (by decide +kernel) (by decide +kernel), gT_mem (i := 69) (by decide +kernel) (by decide +kernel), by decide +kernel⟩
theorem mi_X5_init : Cond.instanceMethod yX5_init ∈ gT := gT_mem (i := 234) (by decide +kernel) (by decide +kernel)
def Y_X5_planAll : MD := (yX5_planAll, cX5_planAll, 6, none, 22, 1051, 0, 0)
theorem mc_X5_planAll : MC Y_X5_planAll 2 := ⟨gT_mem (i := 581) (by decide +kernel) (by decide +kernel), gT_mem (i := 69) (by decide +kernel) (by decide +kernel), by decide +kernel⟩
theorem mi_X5_planAll : Cond.instanceMethod yX5_planAll ∈ gT := gT_mem (i := 579) (by decide +kernel) (by decide +kernel)
theorem ms_X5_planAll : Cond.selects RX5 yX5_planAll yX5_planAll ∈ gT := gT_mem (i := 580) (by decide +kernel) (by decide +kernel)
def Y_X5_firstOf : MD := (yX5_firstOf, cX5_firstOf, 7, (some .int), 1, 22, 0, 0)
theorem mc_X5_firstOf : MC Y_X5_firstOf 2 := ⟨gT_mem (i := 585) (by decide +kernel) (by decide +kernel), gT_mem (i := 69) (by decide +kernel) (by decide +kernel), by decide +kernel⟩
theorem mi_X5_firstOf : Cond.instanceMethod yX5_firstOf ∈ gT := gT_mem (i := 584) (by decide +kernel) (by decide +kernel)
theorem ms_X5_firstOf : Cond.selects RX5 yX5_firstOf yX5_firstOf ∈ gT := gT_mem (i := 9) (by decide +kernel) (by decide +kernel)
def Y_X5_planOne : MD := (yX5_planOne, cX5_planOne, 7, (some .boolean), 21, 1025, 0, 0)
theorem mc_X5_planOne : MC Y_X5_planOne 2 := ⟨gT_mem (i := 590) (by decide +kernel) (by decide +kernel), gT_mem (i := 69) (by decide +kernel) (by decide +kernel), by decide +kernel⟩
theorem mi_X5_planOne : Cond.instanceMethod yX5_planOne ∈ gT := gT_mem (i := 589) (by decide +kernel) (by decide +kernel)
theorem ms_X5_planOne : Cond.selects RX5 yX5_planOne yX5_planOne ∈ gT := gT_mem (i := 10) (by decide +kernel) (by decide +kernel)
def Y_X5_pushOut : MD := (yX5_pushOut, cX5_pushOut, 7, (some .int), 3, 68, 0, 0)
theorem mc_X5_pushOut : MC Y_X5_pushOut 2 := ⟨gT_mem (i := 652) (by decide +kernel) (by decide +kernel), gT_mem (i := 69) (by decide +kernel) (by decide +kernel), by decide +kernel⟩
theorem mi_X5_pushOut : Cond.instanceMethod yX5_pushOut ∈ gT := gT_mem (i := 651) (by decide +kernel) (by decide +kernel)
theorem ms_X5_pushOut : Cond.selects RX5 yX5_pushOut yX5_pushOut ∈ gT := gT_mem (i := 17) (by decide +kernel) (by decide +kernel)
def Y_X6_init : MD := (yX6_init, cX6_init, 2, none, 2, 42, 6, 2409)
theorem mc_X6_init : MC Y_X6_init 1 := ⟨gT_mem (i := 180) (by decide +kernel) (by decide +kernel), gT_mem (i := 66) (by decide +kernel) (by decide +kernel), by decide +kernel⟩
theorem mi_X6_init : Cond.instanceMethod yX6_init ∈ gT := gT_mem (i := 179) (by decide +kernel) (by decide +kernel)
def Y_X6_lookAt : MD := (yX6_lookAt, cX6_lookAt, 7, none, 3, 68, 0, 0)
theorem mc_X6_lookAt : MC Y_X6_lookAt 2 := ⟨gT_mem (i := 607) (by decide +kernel) (by decide +kernel), gT_mem (i := 66) (by decide +kernel) (by decide +kernel), by decide +kernel⟩
theorem mi_X6_lookAt : Cond.instanceMethod yX6_lookAt ∈ gT := gT_mem (i := 605) (by decide +kernel) (by decide +kernel)
theorem ms_X6_lookAt : Cond.selects RX6 yX6_lookAt yX6_lookAt ∈ gT := gT_mem (i := 606) (by decide +kernel) (by decide +kernel)
def Y_X6_openWindows : MD := (yX6_openWindows, cX6_openWindows, 8, none, 2, 41, 0, 0)
theorem mc_X6_openWindows : MC Y_X6_openWindows 1 := ⟨gT_mem (i := 611) (by decide +kernel) (by decide +kernel), gT_mem (i := 66) (by decide +kernel) (by decide +kernel), by decide +kernel⟩
theorem mi_X6_openWindows : Cond.instanceMethod yX6_openWindows ∈ gT := gT_mem (i := 610) (by decide +kernel) (by decide +kernel)
theorem ms_X6_openWindows : Cond.selects RX6 yX6_openWindows yX6_openWindows ∈ gT := gT_mem (i := 12) (by decide +kernel) (by decide +kernel)
def Y_X6_closeTicks : MD := (yX6_closeTicks, cX6_closeTicks, 6, none, 1, 24, 0, 0)
theorem mc_X6_closeTicks : MC Y_X6_closeTicks 2 := ⟨gT_mem (i := 623) (by decide +kernel) (by decide +kernel), gT_mem (i := 66) (by decide +kernel) (by decide +kernel), by decide +kernel⟩
theorem mi_X6_closeTicks : Cond.instanceMethod yX6_closeTicks ∈ gT := gT_mem (i := 622) (by decide +kernel) (by decide +kernel)
theorem ms_X6_closeTicks : Cond.selects RX6 yX6_closeTicks yX6_closeTicks ∈ gT := gT_mem (i := 13) (by decide +kernel) (by decide +kernel)
def Y_X6_countRuns : MD := (yX6_countRuns, cX6_countRuns, 4, none, 1, 24, 0, 0)
theorem mc_X6_countRuns : MC Y_X6_countRuns 0 := ⟨gT_mem (i := 627) (by decide +kernel) (by decide +kernel), gT_mem (i := 66) (by decide +kernel) (by decide +kernel), by decide +kernel⟩
theorem mi_X6_countRuns : Cond.instanceMethod yX6_countRuns ∈ gT := gT_mem (i := 626) (by decide +kernel) (by decide +kernel)
theorem ms_X6_countRuns : Cond.selects RX6 yX6_countRuns yX6_countRuns ∈ gT := gT_mem (i := 14) (by decide +kernel) (by decide +kernel)
def Y_X6_seek : MD := (yX6_seek, cX6_seek, 6, (some .int), 20, 1000, 0, 0)
theorem mc_X6_seek : MC Y_X6_seek 5 := ⟨gT_mem (i := 631) (by decide +kernel) (by decide +kernel), gT_mem (i := 66) (by decide +kernel) (by decide +kernel), by decide +kernel⟩
theorem mi_X6_seek : Cond.instanceMethod yX6_seek ∈ gT := gT_mem (i := 629) (by decide +kernel) (by decide +kernel)
theorem ms_X6_seek : Cond.selects RX6 yX6_seek yX6_seek ∈ gT := gT_mem (i := 630) (by decide +kernel) (by decide +kernel)
def Y_X6_explore (d : Nat) : MD := (yX6_explore, cX6_explore, 10, none, 4 + d, 200 + 60 * d, 0, 0)
theorem mc_X6_explore0 : MC (Y_X6_explore 0) 5 := ⟨gT_mem (i := 634) (by decide +kernel) (by decide +kernel), gT_mem (i := 66) (by decide +kernel) (by decide +kernel), by decide +kernel⟩
theorem mc_X6_explore (d : Nat) : MC (Y_X6_explore d) 5 := mc_X6_explore0
theorem mt_X6_explore : Cond.static yX6_explore ∈ gT := gT_mem (i := 633) (by decide +kernel) (by decide +kernel)
def Y_X6_firstBegin : MD := (yX6_firstBegin, cX6_firstBegin, 5, (some .int), 1, 23, 0, 0)
theorem mc_X6_firstBegin : MC Y_X6_firstBegin 3 := ⟨gT_mem (i := 642) (by decide +kernel) (by decide +kernel), gT_mem (i := 66) (by decide +kernel) (by decide +kernel), by decide +kernel⟩
theorem mi_X6_firstBegin : Cond.instanceMethod yX6_firstBegin ∈ gT := gT_mem (i := 641) (by decide +kernel) (by decide +kernel)
theorem ms_X6_firstBegin : Cond.selects RX6 yX6_firstBegin yX6_firstBegin ∈ gT := gT_mem (i := 15) (by decide +kernel) (by decide +kernel)
def Y_X6_setTrail : MD := (yX6_setTrail, cX6_setTrail, 7, none, 2, 41, 0, 0)
theorem mc_X6_setTrail : MC Y_X6_setTrail 5 := ⟨gT_mem (i := 646) (by decide +kernel) (by decide +kernel), gT_mem (i := 66) (by decide +kernel) (by decide +kernel), by decide +kernel⟩
theorem mi_X6_setTrail : Cond.instanceMethod yX6_setTrail ∈ gT := gT_mem (i := 645) (by decide +kernel) (by decide +kernel)
theorem ms_X6_setTrail : Cond.selects RX6 yX6_setTrail yX6_setTrail ∈ gT := gT_mem (i := 16) (by decide +kernel) (by decide +kernel)
def Y_X7_init : MD := (yX7_init, cX7_init, 3, none, 3, 63, 28, 7316)
theorem mc_X7_init : MC Y_X7_init 1 := ⟨gT_mem (i := 245) (by decide +kernel) (by decide +kernel), gT_mem (i := 70) (by decide +kernel) (by decide +kernel), by decide +kernel⟩
theorem mi_X7_init : Cond.instanceMethod yX7_init ∈ gT := gT_mem (i := 244) (by decide +kernel) (by decide +kernel)
def Y_X7_reset : MD := (yX7_reset, cX7_reset, 1, none, 0, 0, 0, 0)
theorem mc_X7_reset : MC Y_X7_reset 0 := ⟨gT_mem (i := 473) (by decide +kernel) (by decide +kernel), gT_mem (i := 70) (by decide +kernel) (by decide +kernel), by decide +kernel⟩
theorem mi_X7_reset : Cond.instanceMethod yX7_reset ∈ gT := gT_mem (i := 471) (by decide +kernel) (by decide +kernel)
theorem ms_X7_reset : Cond.selects RX7 yX7_reset yX7_reset ∈ gT := gT_mem (i := 472) (by decide +kernel) (by decide +kernel)
def Y_X7_copyFrom : MD := (yX7_copyFrom, cX7_copyFrom, 3, none, 4, 90, 0, 0)
theorem mc_X7_copyFrom : MC Y_X7_copyFrom 1 := ⟨gT_mem (i := 523) (by decide +kernel) (by decide +kernel), gT_mem (i := 70) (by decide +kernel) (by decide +kernel), by decide +kernel⟩
theorem mi_X7_copyFrom : Cond.instanceMethod yX7_copyFrom ∈ gT := gT_mem (i := 521) (by decide +kernel) (by decide +kernel)
theorem ms_X7_copyFrom : Cond.selects RX7 yX7_copyFrom yX7_copyFrom ∈ gT := gT_mem (i := 522) (by decide +kernel) (by decide +kernel)
def Y_X7_hasBundle : MD := (yX7_hasBundle, cX7_hasBundle, 2, (some .boolean), 0, 0, 0, 0)
theorem mc_X7_hasBundle : MC Y_X7_hasBundle 1 := ⟨gT_mem (i := 669) (by decide +kernel) (by decide +kernel), gT_mem (i := 70) (by decide +kernel) (by decide +kernel), by decide +kernel⟩
theorem mi_X7_hasBundle : Cond.instanceMethod yX7_hasBundle ∈ gT := gT_mem (i := 667) (by decide +kernel) (by decide +kernel)
theorem ms_X7_hasBundle : Cond.selects RX7 yX7_hasBundle yX7_hasBundle ∈ gT := gT_mem (i := 668) (by decide +kernel) (by decide +kernel)
def Y_X7_bundleAt : MD := (yX7_bundleAt, cX7_bundleAt, 3, (some (.object "ContactWays$Bundle")), 0, 0, 0, 0)
theorem mc_X7_bundleAt : MC Y_X7_bundleAt 1 := ⟨gT_mem (i := 527) (by decide +kernel) (by decide +kernel), gT_mem (i := 70) (by decide +kernel) (by decide +kernel), by decide +kernel⟩
theorem mi_X7_bundleAt : Cond.instanceMethod yX7_bundleAt ∈ gT := gT_mem (i := 525) (by decide +kernel) (by decide +kernel)
theorem ms_X7_bundleAt : Cond.selects RX7 yX7_bundleAt yX7_bundleAt ∈ gT := gT_mem (i := 526) (by decide +kernel) (by decide +kernel)
def Y_X7_addBundle : MD := (yX7_addBundle, cX7_addBundle, 1, (some .int), 0, 0, 0, 0)
theorem mc_X7_addBundle : MC Y_X7_addBundle 0 := ⟨gT_mem (i := 561) (by decide +kernel) (by decide +kernel), gT_mem (i := 70) (by decide +kernel) (by decide +kernel), by decide +kernel⟩
theorem mi_X7_addBundle : Cond.instanceMethod yX7_addBundle ∈ gT := gT_mem (i := 559) (by decide +kernel) (by decide +kernel)
theorem ms_X7_addBundle : Cond.selects RX7 yX7_addBundle yX7_addBundle ∈ gT := gT_mem (i := 560) (by decide +kernel) (by decide +kernel)
def Y_X7_isMissed : MD := (yX7_isMissed, cX7_isMissed, 2, (some .boolean), 0, 0, 0, 0)
theorem mc_X7_isMissed : MC Y_X7_isMissed 1 := ⟨gT_mem (i := 494) (by decide +kernel) (by decide +kernel), gT_mem (i := 70) (by decide +kernel) (by decide +kernel), by decide +kernel⟩
theorem mi_X7_isMissed : Cond.instanceMethod yX7_isMissed ∈ gT := gT_mem (i := 492) (by decide +kernel) (by decide +kernel)
theorem ms_X7_isMissed : Cond.selects RX7 yX7_isMissed yX7_isMissed ∈ gT := gT_mem (i := 493) (by decide +kernel) (by decide +kernel)
def Y_X7_isOpen : MD := (yX7_isOpen, cX7_isOpen, 3, (some .boolean), 3, 64, 0, 0)
theorem mc_X7_isOpen : MC Y_X7_isOpen 1 := ⟨gT_mem (i := 567) (by decide +kernel) (by decide +kernel), gT_mem (i := 70) (by decide +kernel) (by decide +kernel), by decide +kernel⟩
theorem mi_X7_isOpen : Cond.instanceMethod yX7_isOpen ∈ gT := gT_mem (i := 565) (by decide +kernel) (by decide +kernel)
theorem ms_X7_isOpen : Cond.selects RX7 yX7_isOpen yX7_isOpen ∈ gT := gT_mem (i := 566) (by decide +kernel) (by decide +kernel)
def Y_X7_countStanding : MD := (yX7_countStanding, cX7_countStanding, 2, (some .int), 4, 87, 0, 0)
theorem mc_X7_countStanding : MC Y_X7_countStanding 1 := ⟨gT_mem (i := 708) (by decide +kernel) (by decide +kernel), gT_mem (i := 70) (by decide +kernel) (by decide +kernel), by decide +kernel⟩
theorem mi_X7_countStanding : Cond.instanceMethod yX7_countStanding ∈ gT := gT_mem (i := 706) (by decide +kernel) (by decide +kernel)
theorem ms_X7_countStanding : Cond.selects RX7 yX7_countStanding yX7_countStanding ∈ gT := gT_mem (i := 707) (by decide +kernel) (by decide +kernel)
def Y_X7_allStanding : MD := (yX7_allStanding, cX7_allStanding, 4, (some .int), 3, 64, 0, 0)
theorem mc_X7_allStanding : MC Y_X7_allStanding 1 := ⟨gT_mem (i := 712) (by decide +kernel) (by decide +kernel), gT_mem (i := 70) (by decide +kernel) (by decide +kernel), by decide +kernel⟩
theorem mi_X7_allStanding : Cond.instanceMethod yX7_allStanding ∈ gT := gT_mem (i := 710) (by decide +kernel) (by decide +kernel)
theorem ms_X7_allStanding : Cond.selects RX7 yX7_allStanding yX7_allStanding ∈ gT := gT_mem (i := 711) (by decide +kernel) (by decide +kernel)
def Y_X7_tickAtGoal : MD := (yX7_tickAtGoal, cX7_tickAtGoal, 3, (some .int), 3, 64, 0, 0)
theorem mc_X7_tickAtGoal : MC Y_X7_tickAtGoal 1 := ⟨gT_mem (i := 660) (by decide +kernel) (by decide +kernel), gT_mem (i := 70) (by decide +kernel) (by decide +kernel), by decide +kernel⟩
theorem mi_X7_tickAtGoal : Cond.instanceMethod yX7_tickAtGoal ∈ gT := gT_mem (i := 658) (by decide +kernel) (by decide +kernel)
theorem ms_X7_tickAtGoal : Cond.selects RX7 yX7_tickAtGoal yX7_tickAtGoal ∈ gT := gT_mem (i := 659) (by decide +kernel) (by decide +kernel)
def Y_X7_takerOf : MD := (yX7_takerOf, cX7_takerOf, 4, (some .int), 2, 46, 0, 0)
theorem mc_X7_takerOf : MC Y_X7_takerOf 2 := ⟨gT_mem (i := 757) (by decide +kernel) (by decide +kernel), gT_mem (i := 70) (by decide +kernel) (by decide +kernel), by decide +kernel⟩
theorem mi_X7_takerOf : Cond.instanceMethod yX7_takerOf ∈ gT := gT_mem (i := 755) (by decide +kernel) (by decide +kernel)
theorem ms_X7_takerOf : Cond.selects RX7 yX7_takerOf yX7_takerOf ∈ gT := gT_mem (i := 756) (by decide +kernel) (by decide +kernel)
def Y_X7_advance : MD := (yX7_advance, cX7_advance, 3, none, 4, 85, 0, 0)
theorem mc_X7_advance : MC Y_X7_advance 1 := ⟨gT_mem (i := 682) (by decide +kernel) (by decide +kernel), gT_mem (i := 70) (by decide +kernel) (by decide +kernel), by decide +kernel⟩
theorem mi_X7_advance : Cond.instanceMethod yX7_advance ∈ gT := gT_mem (i := 680) (by decide +kernel) (by decide +kernel)
theorem ms_X7_advance : Cond.selects RX7 yX7_advance yX7_advance ∈ gT := gT_mem (i := 681) (by decide +kernel) (by decide +kernel)
def Y_X7_lose : MD := (yX7_lose, cX7_lose, 4, (some .int), 4, 86, 0, 0)
theorem mc_X7_lose : MC Y_X7_lose 1 := ⟨gT_mem (i := 699) (by decide +kernel) (by decide +kernel), gT_mem (i := 70) (by decide +kernel) (by decide +kernel), by decide +kernel⟩
theorem mi_X7_lose : Cond.instanceMethod yX7_lose ∈ gT := gT_mem (i := 697) (by decide +kernel) (by decide +kernel)
theorem ms_X7_lose : Cond.selects RX7 yX7_lose yX7_lose ∈ gT := gT_mem (i := 698) (by decide +kernel) (by decide +kernel)
def Y_X7_regain : MD := (yX7_regain, cX7_regain, 2, (some .int), 4, 87, 0, 0)
theorem mc_X7_regain : MC Y_X7_regain 1 := ⟨gT_mem (i := 726) (by decide +kernel) (by decide +kernel), gT_mem (i := 70) (by decide +kernel) (by decide +kernel), by decide +kernel⟩
theorem mi_X7_regain : Cond.instanceMethod yX7_regain ∈ gT := gT_mem (i := 724) (by decide +kernel) (by decide +kernel)
theorem ms_X7_regain : Cond.selects RX7 yX7_regain yX7_regain ∈ gT := gT_mem (i := 725) (by decide +kernel) (by decide +kernel)
def Y_X8_init : MD := (yX8_init, cX8_init, 3, none, 1, 20, 1, 800)
theorem mc_X8_init : MC Y_X8_init 2 := ⟨gT_mem (i := 186) (by decide +kernel) (by decide +kernel), gT_mem (i := 67) (by decide +kernel) (by decide +kernel), by decide +kernel⟩
theorem mi_X8_init : Cond.instanceMethod yX8_init ∈ gT := gT_mem (i := 185) (by decide +kernel) (by decide +kernel)
def Y_X8_at : MD := (yX8_at, cX8_at, 4, (some .int), 0, 0, 0, 0)
theorem mc_X8_at : MC Y_X8_at 2 := ⟨gT_mem (i := 552) (by decide +kernel) (by decide +kernel), gT_mem (i := 67) (by decide +kernel) (by decide +kernel), by decide +kernel⟩
theorem mi_X8_at : Cond.instanceMethod yX8_at ∈ gT := gT_mem (i := 550) (by decide +kernel) (by decide +kernel)
theorem ms_X8_at : Cond.selects RX8 yX8_at yX8_at ∈ gT := gT_mem (i := 551) (by decide +kernel) (by decide +kernel)
def Y_X8_put : MD := (yX8_put, cX8_put, 5, none, 0, 0, 0, 0)
theorem mc_X8_put : MC Y_X8_put 3 := ⟨gT_mem (i := 556) (by decide +kernel) (by decide +kernel), gT_mem (i := 67) (by decide +kernel) (by decide +kernel), by decide +kernel⟩
theorem mi_X8_put : Cond.instanceMethod yX8_put ∈ gT := gT_mem (i := 554) (by decide +kernel) (by decide +kernel)
theorem ms_X8_put : Cond.selects RX8 yX8_put yX8_put ∈ gT := gT_mem (i := 555) (by decide +kernel) (by decide +kernel)
def Y_X8_addRow : MD := (yX8_addRow, cX8_addRow, 1, (some .int), 0, 0, 0, 0)
theorem mc_X8_addRow : MC Y_X8_addRow 0 := ⟨gT_mem (i := 548) (by decide +kernel) (by decide +kernel), gT_mem (i := 67) (by decide +kernel) (by decide +kernel), by decide +kernel⟩
theorem mi_X8_addRow : Cond.instanceMethod yX8_addRow ∈ gT := gT_mem (i := 546) (by decide +kernel) (by decide +kernel)
theorem ms_X8_addRow : Cond.selects RX8 yX8_addRow yX8_addRow ∈ gT := gT_mem (i := 547) (by decide +kernel) (by decide +kernel)
def Y_X8_cut : MD := (yX8_cut, cX8_cut, 2, none, 1, 20, 0, 0)
theorem mc_X8_cut : MC Y_X8_cut 1 := ⟨gT_mem (i := 481) (by decide +kernel) (by decide +kernel), gT_mem (i := 67) (by decide +kernel) (by decide +kernel), by decide +kernel⟩
theorem mi_X8_cut : Cond.instanceMethod yX8_cut ∈ gT := gT_mem (i := 479) (by decide +kernel) (by decide +kernel)
theorem ms_X8_cut : Cond.selects RX8 yX8_cut yX8_cut ∈ gT := gT_mem (i := 480) (by decide +kernel) (by decide +kernel)
def Y_X8_removeFirstRow : MD := (yX8_removeFirstRow, cX8_removeFirstRow, 3, none, 2, 41, 0, 0)
theorem mc_X8_removeFirstRow : MC Y_X8_removeFirstRow 0 := ⟨gT_mem (i := 690) (by decide +kernel) (by decide +kernel), gT_mem (i := 67) (by decide +kernel) (by decide +kernel), by decide +kernel⟩
theorem mi_X8_removeFirstRow : Cond.instanceMethod yX8_removeFirstRow ∈ gT := gT_mem (i := 688) (by decide +kernel) (by decide +kernel)
theorem ms_X8_removeFirstRow : Cond.selects RX8 yX8_removeFirstRow yX8_removeFirstRow ∈ gT := gT_mem (i := 689) (by decide +kernel) (by decide +kernel)
def Y_X8_copyFrom : MD := (yX8_copyFrom, cX8_copyFrom, 2, none, 2, 48, 0, 0)
theorem mc_X8_copyFrom : MC Y_X8_copyFrom 1 := ⟨gT_mem (i := 540) (by decide +kernel) (by decide +kernel), gT_mem (i := 67) (by decide +kernel) (by decide +kernel), by decide +kernel⟩
theorem mi_X8_copyFrom : Cond.instanceMethod yX8_copyFrom ∈ gT := gT_mem (i := 538) (by decide +kernel) (by decide +kernel)
theorem ms_X8_copyFrom : Cond.selects RX8 yX8_copyFrom yX8_copyFrom ∈ gT := gT_mem (i := 539) (by decide +kernel) (by decide +kernel)
def Y_X8_appendFrom : MD := (yX8_appendFrom, cX8_appendFrom, 5, none, 1, 24, 0, 0)
theorem mc_X8_appendFrom : MC Y_X8_appendFrom 1 := ⟨gT_mem (i := 544) (by decide +kernel) (by decide +kernel), gT_mem (i := 67) (by decide +kernel) (by decide +kernel), by decide +kernel⟩
theorem mi_X8_appendFrom : Cond.instanceMethod yX8_appendFrom ∈ gT := gT_mem (i := 542) (by decide +kernel) (by decide +kernel)
theorem ms_X8_appendFrom : Cond.selects RX8 yX8_appendFrom yX8_appendFrom ∈ gT := gT_mem (i := 543) (by decide +kernel) (by decide +kernel)
def Y_X9_init : MD := (yX9_init, cX9_init, 1, none, 1, 20, 1, 150)
theorem mc_X9_init : MC Y_X9_init 0 := ⟨gT_mem (i := 87) (by decide +kernel) (by decide +kernel), gT_mem (i := 62) (by decide +kernel) (by decide +kernel), by decide +kernel⟩
theorem mi_X9_init : Cond.instanceMethod yX9_init ∈ gT := gT_mem (i := 86) (by decide +kernel) (by decide +kernel)
def Y_X9_isFull : MD := (yX9_isFull, cX9_isFull, 1, (some .boolean), 0, 0, 0, 0)
theorem mc_X9_isFull : MC Y_X9_isFull 0 := ⟨gT_mem (i := 387) (by decide +kernel) (by decide +kernel), gT_mem (i := 62) (by decide +kernel) (by decide +kernel), by decide +kernel⟩
theorem mi_X9_isFull : Cond.instanceMethod yX9_isFull ∈ gT := gT_mem (i := 385) (by decide +kernel) (by decide +kernel)
theorem ms_X9_isFull : Cond.selects RX9 yX9_isFull yX9_isFull ∈ gT := gT_mem (i := 386) (by decide +kernel) (by decide +kernel)
def Y_X9_append : MD := (yX9_append, cX9_append, 2, none, 0, 0, 0, 0)
theorem mc_X9_append : MC Y_X9_append 1 := ⟨gT_mem (i := 391) (by decide +kernel) (by decide +kernel), gT_mem (i := 62) (by decide +kernel) (by decide +kernel), by decide +kernel⟩
theorem mi_X9_append : Cond.instanceMethod yX9_append ∈ gT := gT_mem (i := 389) (by decide +kernel) (by decide +kernel)
theorem ms_X9_append : Cond.selects RX9 yX9_append yX9_append ∈ gT := gT_mem (i := 390) (by decide +kernel) (by decide +kernel)
def Y_X9_empty : MD := (yX9_empty, cX9_empty, 1, none, 0, 0, 0, 0)
theorem mc_X9_empty : MC Y_X9_empty 0 := ⟨gT_mem (i := 399) (by decide +kernel) (by decide +kernel), gT_mem (i := 62) (by decide +kernel) (by decide +kernel), by decide +kernel⟩
theorem mi_X9_empty : Cond.instanceMethod yX9_empty ∈ gT := gT_mem (i := 397) (by decide +kernel) (by decide +kernel)
theorem ms_X9_empty : Cond.selects RX9 yX9_empty yX9_empty ∈ gT := gT_mem (i := 398) (by decide +kernel) (by decide +kernel)
def Y_X9_byteAt : MD := (yX9_byteAt, cX9_byteAt, 2, (some .int), 0, 0, 0, 0)
theorem mc_X9_byteAt : MC Y_X9_byteAt 1 := ⟨gT_mem (i := 419) (by decide +kernel) (by decide +kernel), gT_mem (i := 62) (by decide +kernel) (by decide +kernel), by decide +kernel⟩
theorem mi_X9_byteAt : Cond.instanceMethod yX9_byteAt ∈ gT := gT_mem (i := 417) (by decide +kernel) (by decide +kernel)
theorem ms_X9_byteAt : Cond.selects RX9 yX9_byteAt yX9_byteAt ∈ gT := gT_mem (i := 418) (by decide +kernel) (by decide +kernel)
def Y_X10_init : MD := (yX10_init, cX10_init, 1, none, 5, 107, 398, 98598)
theorem mc_X10_init : MC Y_X10_init 0 := ⟨gT_mem (i := 79) (by decide +kernel) (by decide +kernel), gT_mem (i := 61) (by decide +kernel) (by decide +kernel), by decide +kernel⟩
theorem mi_X10_init : Cond.instanceMethod yX10_init ∈ gT := gT_mem (i := 78) (by decide +kernel) (by decide +kernel)
def Y_X10_type : MD := (yX10_type, cX10_type, 2, (some .int), 1, 22, 0, 0)
theorem mc_X10_type : MC Y_X10_type 1 := ⟨gT_mem (i := 380) (by decide +kernel) (by decide +kernel), gT_mem (i := 61) (by decide +kernel) (by decide +kernel), by decide +kernel⟩
theorem mi_X10_type : Cond.instanceMethod yX10_type ∈ gT := gT_mem (i := 378) (by decide +kernel) (by decide +kernel)
theorem ms_X10_type : Cond.selects RX10 yX10_type yX10_type ∈ gT := gT_mem (i := 379) (by decide +kernel) (by decide +kernel)
def Y_X10_clear : MD := (yX10_clear, cX10_clear, 2, (some .int), 1, 20, 0, 0)
theorem mc_X10_clear : MC Y_X10_clear 0 := ⟨gT_mem (i := 395) (by decide +kernel) (by decide +kernel), gT_mem (i := 61) (by decide +kernel) (by decide +kernel), by decide +kernel⟩
theorem mi_X10_clear : Cond.instanceMethod yX10_clear ∈ gT := gT_mem (i := 393) (by decide +kernel) (by decide +kernel)
theorem ms_X10_clear : Cond.selects RX10 yX10_clear yX10_clear ∈ gT := gT_mem (i := 394) (by decide +kernel) (by decide +kernel)
def Y_X10_plan : MD := (yX10_plan, cX10_plan, 2, (some .int), 6, 136, 150, 900)
theorem mc_X10_plan : MC Y_X10_plan 0 := ⟨gT_mem (i := 403) (by decide +kernel) (by decide +kernel), gT_mem (i := 61) (by decide +kernel) (by decide +kernel), by decide +kernel⟩
theorem mi_X10_plan : Cond.instanceMethod yX10_plan ∈ gT := gT_mem (i := 401) (by decide +kernel) (by decide +kernel)
theorem ms_X10_plan : Cond.selects RX10 yX10_plan yX10_plan ∈ gT := gT_mem (i := 402) (by decide +kernel) (by decide +kernel)
def Y_X10_contact : MD := (yX10_contact, cX10_contact, 3, (some .int), 1, 22, 0, 0)
theorem mc_X10_contact : MC Y_X10_contact 2 := ⟨gT_mem (i := 486) (by decide +kernel) (by decide +kernel), gT_mem (i := 61) (by decide +kernel) (by decide +kernel), by decide +kernel⟩
theorem mi_X10_contact : Cond.instanceMethod yX10_contact ∈ gT := gT_mem (i := 484) (by decide +kernel) (by decide +kernel)
theorem ms_X10_contact : Cond.selects RX10 yX10_contact yX10_contact ∈ gT := gT_mem (i := 485) (by decide +kernel) (by decide +kernel)
def Y_X10_sends : MD := (yX10_sends, cX10_sends, 7, (some .int), 23, 1076, 0, 0)
theorem mc_X10_sends : MC Y_X10_sends 5 := ⟨gT_mem (i := 503) (by decide +kernel) (by decide +kernel), gT_mem (i := 61) (by decide +kernel) (by decide +kernel), by decide +kernel⟩
theorem mi_X10_sends : Cond.instanceMethod yX10_sends ∈ gT := gT_mem (i := 501) (by decide +kernel) (by decide +kernel)
theorem ms_X10_sends : Cond.selects RX10 yX10_sends yX10_sends ∈ gT := gT_mem (i := 502) (by decide +kernel) (by decide +kernel)
def Y_X10_drops : MD := (yX10_drops, cX10_drops, 2, (some .int), 6, 133, 0, 0)
theorem mc_X10_drops : MC Y_X10_drops 1 := ⟨gT_mem (i := 665) (by decide +kernel) (by decide +kernel), gT_mem (i := 61) (by decide +kernel) (by decide +kernel), by decide +kernel⟩
theorem mi_X10_drops : Cond.instanceMethod yX10_drops ∈ gT := gT_mem (i := 663) (by decide +kernel) (by decide +kernel)
theorem ms_X10_drops : Cond.selects RX10 yX10_drops yX10_drops ∈ gT := gT_mem (i := 664) (by decide +kernel) (by decide +kernel)
def Y_X10_passes : MD := (yX10_passes, cX10_passes, 2, (some .int), 6, 133, 0, 0)
theorem mc_X10_passes : MC Y_X10_passes 1 := ⟨gT_mem (i := 678) (by decide +kernel) (by decide +kernel), gT_mem (i := 61) (by decide +kernel) (by decide +kernel), by decide +kernel⟩
theorem mi_X10_passes : Cond.instanceMethod yX10_passes ∈ gT := gT_mem (i := 676) (by decide +kernel) (by decide +kernel)
theorem ms_X10_passes : Cond.selects RX10 yX10_passes yX10_passes ∈ gT := gT_mem (i := 677) (by decide +kernel) (by decide +kernel)
def Y_X10_misses : MD := (yX10_misses, cX10_misses, 2, (some .int), 23, 1076, 0, 0)
theorem mc_X10_misses : MC Y_X10_misses 1 := ⟨gT_mem (i := 695) (by decide +kernel) (by decide +kernel), gT_mem (i := 61) (by decide +kernel) (by decide +kernel), by decide +kernel⟩
theorem mi_X10_misses : Cond.instanceMethod yX10_misses ∈ gT := gT_mem (i := 693) (by decide +kernel) (by decide +kernel)
theorem ms_X10_misses : Cond.selects RX10 yX10_misses yX10_misses ∈ gT := gT_mem (i := 694) (by decide +kernel) (by decide +kernel)
def Y_X10_finds : MD := (yX10_finds, cX10_finds, 2, (some .int), 23, 1076, 0, 0)
theorem mc_X10_finds : MC Y_X10_finds 1 := ⟨gT_mem (i := 722) (by decide +kernel) (by decide +kernel), gT_mem (i := 61) (by decide +kernel) (by decide +kernel), by decide +kernel⟩
theorem mi_X10_finds : Cond.instanceMethod yX10_finds ∈ gT := gT_mem (i := 720) (by decide +kernel) (by decide +kernel)
theorem ms_X10_finds : Cond.selects RX10 yX10_finds yX10_finds ∈ gT := gT_mem (i := 721) (by decide +kernel) (by decide +kernel)
def Y_X10_undo : MD := (yX10_undo, cX10_undo, 1, (some .int), 6, 133, 0, 0)
theorem mc_X10_undo : MC Y_X10_undo 0 := ⟨gT_mem (i := 730) (by decide +kernel) (by decide +kernel), gT_mem (i := 61) (by decide +kernel) (by decide +kernel), by decide +kernel⟩
theorem mi_X10_undo : Cond.instanceMethod yX10_undo ∈ gT := gT_mem (i := 728) (by decide +kernel) (by decide +kernel)
theorem ms_X10_undo : Cond.selects RX10 yX10_undo yX10_undo ∈ gT := gT_mem (i := 729) (by decide +kernel) (by decide +kernel)
def Y_X10_bundle : MD := (yX10_bundle, cX10_bundle, 3, (some .int), 4, 86, 0, 0)
theorem mc_X10_bundle : MC Y_X10_bundle 2 := ⟨gT_mem (i := 738) (by decide +kernel) (by decide +kernel), gT_mem (i := 61) (by decide +kernel) (by decide +kernel), by decide +kernel⟩
theorem mi_X10_bundle : Cond.instanceMethod yX10_bundle ∈ gT := gT_mem (i := 736) (by decide +kernel) (by decide +kernel)
theorem ms_X10_bundle : Cond.selects RX10 yX10_bundle yX10_bundle ∈ gT := gT_mem (i := 737) (by decide +kernel) (by decide +kernel)
def Y_X10_hop : MD := (yX10_hop, cX10_hop, 4, (some .int), 1, 23, 0, 0)
theorem mc_X10_hop : MC Y_X10_hop 3 := ⟨gT_mem (i := 748) (by decide +kernel) (by decide +kernel), gT_mem (i := 61) (by decide +kernel) (by decide +kernel), by decide +kernel⟩
theorem mi_X10_hop : Cond.instanceMethod yX10_hop ∈ gT := gT_mem (i := 746) (by decide +kernel) (by decide +kernel)
theorem ms_X10_hop : Cond.selects RX10 yX10_hop yX10_hop ∈ gT := gT_mem (i := 747) (by decide +kernel) (by decide +kernel)
def Y_X10_tick : MD := (yX10_tick, cX10_tick, 3, (some .int), 3, 69, 0, 0)
theorem mc_X10_tick : MC Y_X10_tick 2 := ⟨gT_mem (i := 753) (by decide +kernel) (by decide +kernel), gT_mem (i := 61) (by decide +kernel) (by decide +kernel), by decide +kernel⟩
theorem mi_X10_tick : Cond.instanceMethod yX10_tick ∈ gT := gT_mem (i := 751) (by decide +kernel) (by decide +kernel)
theorem ms_X10_tick : Cond.selects RX10 yX10_tick yX10_tick ∈ gT := gT_mem (i := 752) (by decide +kernel) (by decide +kernel)
def Y_X10_asks : MD := (yX10_asks, cX10_asks, 5, (some .int), 22, 1049, 0, 0)
theorem mc_X10_asks : MC Y_X10_asks 4 := ⟨gT_mem (i := 765) (by decide +kernel) (by decide +kernel), gT_mem (i := 61) (by decide +kernel) (by decide +kernel), by decide +kernel⟩
theorem mi_X10_asks : Cond.instanceMethod yX10_asks ∈ gT := gT_mem (i := 763) (by decide +kernel) (by decide +kernel)
theorem ms_X10_asks : Cond.selects RX10 yX10_asks yX10_asks ∈ gT := gT_mem (i := 764) (by decide +kernel) (by decide +kernel)
def Y_X10_largest : MD := (yX10_largest, cX10_largest, 7, (some .int), 22, 1049, 0, 0)
theorem mc_X10_largest : MC Y_X10_largest 4 := ⟨gT_mem (i := 775) (by decide +kernel) (by decide +kernel), gT_mem (i := 61) (by decide +kernel) (by decide +kernel), by decide +kernel⟩
theorem mi_X10_largest : Cond.instanceMethod yX10_largest ∈ gT := gT_mem (i := 773) (by decide +kernel) (by decide +kernel)
theorem ms_X10_largest : Cond.selects RX10 yX10_largest yX10_largest ∈ gT := gT_mem (i := 774) (by decide +kernel) (by decide +kernel)
def Y_X10_worst : MD := (yX10_worst, cX10_worst, 5, (some .int), 23, 1076, 0, 0)
theorem mc_X10_worst : MC Y_X10_worst 0 := ⟨gT_mem (i := 779) (by decide +kernel) (by decide +kernel), gT_mem (i := 61) (by decide +kernel) (by decide +kernel), by decide +kernel⟩
theorem mi_X10_worst : Cond.instanceMethod yX10_worst ∈ gT := gT_mem (i := 777) (by decide +kernel) (by decide +kernel)
theorem ms_X10_worst : Cond.selects RX10 yX10_worst yX10_worst ∈ gT := gT_mem (i := 778) (by decide +kernel) (by decide +kernel)
def Y_X10_sees : MD := (yX10_sees, cX10_sees, 5, (some .int), 1, 24, 0, 0)
theorem mc_X10_sees : MC Y_X10_sees 3 := ⟨gT_mem (i := 784) (by decide +kernel) (by decide +kernel), gT_mem (i := 61) (by decide +kernel) (by decide +kernel), by decide +kernel⟩
theorem mi_X10_sees : Cond.instanceMethod yX10_sees ∈ gT := gT_mem (i := 782) (by decide +kernel) (by decide +kernel)
theorem ms_X10_sees : Cond.selects RX10 yX10_sees yX10_sees ∈ gT := gT_mem (i := 783) (by decide +kernel) (by decide +kernel)
def Y_X10_forget : MD := (yX10_forget, cX10_forget, 2, (some .int), 2, 41, 0, 0)
theorem mc_X10_forget : MC Y_X10_forget 0 := ⟨gT_mem (i := 790) (by decide +kernel) (by decide +kernel), gT_mem (i := 61) (by decide +kernel) (by decide +kernel), by decide +kernel⟩
theorem mi_X10_forget : Cond.instanceMethod yX10_forget ∈ gT := gT_mem (i := 788) (by decide +kernel) (by decide +kernel)
theorem ms_X10_forget : Cond.selects RX10 yX10_forget yX10_forget ∈ gT := gT_mem (i := 789) (by decide +kernel) (by decide +kernel)
def Y_X10_unseen : MD := (yX10_unseen, cX10_unseen, 3, (some .int), 23, 1074, 0, 0)
theorem mc_X10_unseen : MC Y_X10_unseen 0 := ⟨gT_mem (i := 794) (by decide +kernel) (by decide +kernel), gT_mem (i := 61) (by decide +kernel) (by decide +kernel), by decide +kernel⟩
theorem mi_X10_unseen : Cond.instanceMethod yX10_unseen ∈ gT := gT_mem (i := 792) (by decide +kernel) (by decide +kernel)
theorem ms_X10_unseen : Cond.selects RX10 yX10_unseen yX10_unseen ∈ gT := gT_mem (i := 793) (by decide +kernel) (by decide +kernel)
def Y_X10_keep : MD := (yX10_keep, cX10_keep, 2, (some .int), 5, 112, 0, 0)
theorem mc_X10_keep : MC Y_X10_keep 1 := ⟨gT_mem (i := 802) (by decide +kernel) (by decide +kernel), gT_mem (i := 61) (by decide +kernel) (by decide +kernel), by decide +kernel⟩
theorem mi_X10_keep : Cond.instanceMethod yX10_keep ∈ gT := gT_mem (i := 800) (by decide +kernel) (by decide +kernel)
theorem ms_X10_keep : Cond.selects RX10 yX10_keep yX10_keep ∈ gT := gT_mem (i := 801) (by decide +kernel) (by decide +kernel)
def Y_X10_back : MD := (yX10_back, cX10_back, 2, (some .int), 5, 112, 0, 0)
theorem mc_X10_back : MC Y_X10_back 1 := ⟨gT_mem (i := 810) (by decide +kernel) (by decide +kernel), gT_mem (i := 61) (by decide +kernel) (by decide +kernel), by decide +kernel⟩
theorem mi_X10_back : Cond.instanceMethod yX10_back ∈ gT := gT_mem (i := 808) (by decide +kernel) (by decide +kernel)
theorem ms_X10_back : Cond.selects RX10 yX10_back yX10_back ∈ gT := gT_mem (i := 809) (by decide +kernel) (by decide +kernel)
def Y_X10_count : MD := (yX10_count, cX10_count, 2, (some .int), 5, 108, 0, 0)
theorem mc_X10_count : MC Y_X10_count 1 := ⟨gT_mem (i := 814) (by decide +kernel) (by decide +kernel), gT_mem (i := 61) (by decide +kernel) (by decide +kernel), by decide +kernel⟩
theorem mi_X10_count : Cond.instanceMethod yX10_count ∈ gT := gT_mem (i := 812) (by decide +kernel) (by decide +kernel)
theorem ms_X10_count : Cond.selects RX10 yX10_count yX10_count ∈ gT := gT_mem (i := 813) (by decide +kernel) (by decide +kernel)
def Y_X10_isWithin : MD := (yX10_isWithin, cX10_isWithin, 3, (some .boolean), 0, 0, 0, 0)
theorem mc_X10_isWithin : MC Y_X10_isWithin 3 := ⟨gT_mem (i := 383) (by decide +kernel) (by decide +kernel), gT_mem (i := 61) (by decide +kernel) (by decide +kernel), by decide +kernel⟩
theorem mt_X10_isWithin : Cond.static yX10_isWithin ∈ gT := gT_mem (i := 382) (by decide +kernel) (by decide +kernel)
def Y_X10_isSendable : MD := (yX10_isSendable, cX10_isSendable, 5, (some .boolean), 1, 22, 0, 0)
theorem mc_X10_isSendable : MC Y_X10_isSendable 4 := ⟨gT_mem (i := 507) (by decide +kernel) (by decide +kernel), gT_mem (i := 61) (by decide +kernel) (by decide +kernel), by decide +kernel⟩
theorem mi_X10_isSendable : Cond.instanceMethod yX10_isSendable ∈ gT := gT_mem (i := 506) (by decide +kernel) (by decide +kernel)
theorem ms_X10_isSendable : Cond.selects RX10 yX10_isSendable yX10_isSendable ∈ gT := gT_mem (i := 7) (by decide +kernel) (by decide +kernel)
def Y_X10_predict : MD := (yX10_predict, cX10_predict, 5, (some .int), 21, 1025, 0, 0)
theorem mc_X10_predict : MC Y_X10_predict 4 := ⟨gT_mem (i := 770) (by decide +kernel) (by decide +kernel), gT_mem (i := 61) (by decide +kernel) (by decide +kernel), by decide +kernel⟩
theorem mi_X10_predict : Cond.instanceMethod yX10_predict ∈ gT := gT_mem (i := 769) (by decide +kernel) (by decide +kernel)
theorem ms_X10_predict : Cond.selects RX10 yX10_predict yX10_predict ∈ gT := gT_mem (i := 18) (by decide +kernel) (by decide +kernel)
def Y_X10_explainsAll : MD := (yX10_explainsAll, cX10_explainsAll, 6, (some .boolean), 22, 1049, 0, 0)
theorem mc_X10_explainsAll : MC Y_X10_explainsAll 1 := ⟨gT_mem (i := 798) (by decide +kernel) (by decide +kernel), gT_mem (i := 61) (by decide +kernel) (by decide +kernel), by decide +kernel⟩
theorem mi_X10_explainsAll : Cond.instanceMethod yX10_explainsAll ∈ gT := gT_mem (i := 797) (by decide +kernel) (by decide +kernel)
theorem ms_X10_explainsAll : Cond.selects RX10 yX10_explainsAll yX10_explainsAll ∈ gT := gT_mem (i := 19) (by decide +kernel) (by decide +kernel)
def Y_X10_imageAt : MD := (yX10_imageAt, cX10_imageAt, 2, (some (.object "ContactWays$Situation")), 0, 0, 0, 0)
theorem mc_X10_imageAt : MC Y_X10_imageAt 1 := ⟨gT_mem (i := 806) (by decide +kernel) (by decide +kernel), gT_mem (i := 61) (by decide +kernel) (by decide +kernel), by decide +kernel⟩
theorem mi_X10_imageAt : Cond.instanceMethod yX10_imageAt ∈ gT := gT_mem (i := 805) (by decide +kernel) (by decide +kernel)
theorem ms_X10_imageAt : Cond.selects RX10 yX10_imageAt yX10_imageAt ∈ gT := gT_mem (i := 20) (by decide +kernel) (by decide +kernel)
def Y_X11_init : MD := (yX11_init, cX11_init, 1, none, 1, 21, 15, 3068)
theorem mc_X11_init : MC Y_X11_init 0 := ⟨gT_mem (i := 819) (by decide +kernel) (by decide +kernel), gT_mem (i := 73) (by decide +kernel) (by decide +kernel), by decide +kernel⟩
theorem mi_X11_init : Cond.instanceMethod yX11_init ∈ gT := gT_mem (i := 818) (by decide +kernel) (by decide +kernel)
def Y_X11_in : MD := (yX11_in, cX11_in, 3, (some .boolean), 0, 0, 0, 0)
theorem mc_X11_in : MC Y_X11_in 3 := ⟨gT_mem (i := 921) (by decide +kernel) (by decide +kernel), gT_mem (i := 73) (by decide +kernel) (by decide +kernel), by decide +kernel⟩
theorem mt_X11_in : Cond.static yX11_in ∈ gT := gT_mem (i := 920) (by decide +kernel) (by decide +kernel)
def Y_X11_isNode : MD := (yX11_isNode, cX11_isNode, 2, (some .boolean), 1, 22, 0, 0)
theorem mc_X11_isNode : MC Y_X11_isNode 1 := ⟨gT_mem (i := 969) (by decide +kernel) (by decide +kernel), gT_mem (i := 73) (by decide +kernel) (by decide +kernel), by decide +kernel⟩
theorem mi_X11_isNode : Cond.instanceMethod yX11_isNode ∈ gT := gT_mem (i := 968) (by decide +kernel) (by decide +kernel)
theorem ms_X11_isNode : Cond.selects RX11 yX11_isNode yX11_isNode ∈ gT := gT_mem (i := 30) (by decide +kernel) (by decide +kernel)
def Y_X11_isContact : MD := (yX11_isContact, cX11_isContact, 2, (some .boolean), 1, 22, 0, 0)
theorem mc_X11_isContact : MC Y_X11_isContact 1 := ⟨gT_mem (i := 957) (by decide +kernel) (by decide +kernel), gT_mem (i := 73) (by decide +kernel) (by decide +kernel), by decide +kernel⟩
theorem mi_X11_isContact : Cond.instanceMethod yX11_isContact ∈ gT := gT_mem (i := 956) (by decide +kernel) (by decide +kernel)
theorem ms_X11_isContact : Cond.selects RX11 yX11_isContact yX11_isContact ∈ gT := gT_mem (i := 28) (by decide +kernel) (by decide +kernel)
def Y_X11_isBundle : MD := (yX11_isBundle, cX11_isBundle, 2, (some .boolean), 1, 22, 0, 0)
theorem mc_X11_isBundle : MC Y_X11_isBundle 1 := ⟨gT_mem (i := 1071) (by decide +kernel) (by decide +kernel), gT_mem (i := 73) (by decide +kernel) (by decide +kernel), by decide +kernel⟩
theorem mi_X11_isBundle : Cond.instanceMethod yX11_isBundle ∈ gT := gT_mem (i := 1070) (by decide +kernel) (by decide +kernel)
theorem ms_X11_isBundle : Cond.selects RX11 yX11_isBundle yX11_isBundle ∈ gT := gT_mem (i := 53) (by decide +kernel) (by decide +kernel)
def Y_X11_isMissed : MD := (yX11_isMissed, cX11_isMissed, 2, (some .boolean), 0, 0, 0, 0)
theorem mc_X11_isMissed : MC Y_X11_isMissed 1 := ⟨gT_mem (i := 961) (by decide +kernel) (by decide +kernel), gT_mem (i := 73) (by decide +kernel) (by decide +kernel), by decide +kernel⟩
theorem mi_X11_isMissed : Cond.instanceMethod yX11_isMissed ∈ gT := gT_mem (i := 960) (by decide +kernel) (by decide +kernel)
theorem ms_X11_isMissed : Cond.selects RX11 yX11_isMissed yX11_isMissed ∈ gT := gT_mem (i := 29) (by decide +kernel) (by decide +kernel)
def Y_X11_type : MD := (yX11_type, cX11_type, 2, (some .int), 1, 22, 0, 0)
theorem mc_X11_type : MC Y_X11_type 1 := ⟨gT_mem (i := 918) (by decide +kernel) (by decide +kernel), gT_mem (i := 73) (by decide +kernel) (by decide +kernel), by decide +kernel⟩
theorem mi_X11_type : Cond.instanceMethod yX11_type ∈ gT := gT_mem (i := 916) (by decide +kernel) (by decide +kernel)
theorem ms_X11_type : Cond.selects RX11 yX11_type yX11_type ∈ gT := gT_mem (i := 917) (by decide +kernel) (by decide +kernel)
def Y_X11_clear : MD := (yX11_clear, cX11_clear, 2, (some .int), 0, 0, 0, 0)
theorem mc_X11_clear : MC Y_X11_clear 0 := ⟨gT_mem (i := 925) (by decide +kernel) (by decide +kernel), gT_mem (i := 73) (by decide +kernel) (by decide +kernel), by decide +kernel⟩
theorem mi_X11_clear : Cond.instanceMethod yX11_clear ∈ gT := gT_mem (i := 923) (by decide +kernel) (by decide +kernel)
theorem ms_X11_clear : Cond.selects RX11 yX11_clear yX11_clear ∈ gT := gT_mem (i := 924) (by decide +kernel) (by decide +kernel)
def Y_X11_isFigure : MD := (yX11_isFigure, cX11_isFigure, 2, (some .boolean), 1, 22, 0, 0)
theorem mc_X11_isFigure : MC Y_X11_isFigure 1 := ⟨gT_mem (i := 937) (by decide +kernel) (by decide +kernel), gT_mem (i := 73) (by decide +kernel) (by decide +kernel), by decide +kernel⟩
theorem mi_X11_isFigure : Cond.instanceMethod yX11_isFigure ∈ gT := gT_mem (i := 936) (by decide +kernel) (by decide +kernel)
theorem ms_X11_isFigure : Cond.selects RX11 yX11_isFigure yX11_isFigure ∈ gT := gT_mem (i := 24) (by decide +kernel) (by decide +kernel)
def Y_X11_takes : MD := (yX11_takes, cX11_takes, 2, none, 2, 43, 0, 0)
theorem mc_X11_takes : MC Y_X11_takes 0 := ⟨gT_mem (i := 933) (by decide +kernel) (by decide +kernel), gT_mem (i := 73) (by decide +kernel) (by decide +kernel), by decide +kernel⟩
theorem mi_X11_takes : Cond.instanceMethod yX11_takes ∈ gT := gT_mem (i := 932) (by decide +kernel) (by decide +kernel)
theorem ms_X11_takes : Cond.selects RX11 yX11_takes yX11_takes ∈ gT := gT_mem (i := 23) (by decide +kernel) (by decide +kernel)
def Y_X11_reads : MD := (yX11_reads, cX11_reads, 4, (some .boolean), 3, 64, 0, 0)
theorem mc_X11_reads : MC Y_X11_reads 3 := ⟨gT_mem (i := 949) (by decide +kernel) (by decide +kernel), gT_mem (i := 73) (by decide +kernel) (by decide +kernel), by decide +kernel⟩
theorem mi_X11_reads : Cond.instanceMethod yX11_reads ∈ gT := gT_mem (i := 948) (by decide +kernel) (by decide +kernel)
theorem ms_X11_reads : Cond.selects RX11 yX11_reads yX11_reads ∈ gT := gT_mem (i := 27) (by decide +kernel) (by decide +kernel)
def Y_X11_readsContact : MD := (yX11_readsContact, cX11_readsContact, 2, (some .boolean), 4, 87, 0, 0)
theorem mc_X11_readsContact : MC Y_X11_readsContact 0 := ⟨gT_mem (i := 945) (by decide +kernel) (by decide +kernel), gT_mem (i := 73) (by decide +kernel) (by decide +kernel), by decide +kernel⟩
theorem mi_X11_readsContact : Cond.instanceMethod yX11_readsContact ∈ gT := gT_mem (i := 944) (by decide +kernel) (by decide +kernel)
theorem ms_X11_readsContact : Cond.selects RX11 yX11_readsContact yX11_readsContact ∈ gT := gT_mem (i := 26) (by decide +kernel) (by decide +kernel)
def Y_X11_readsNodes : MD := (yX11_readsNodes, cX11_readsNodes, 2, (some .boolean), 3, 64, 0, 0)
theorem mc_X11_readsNodes : MC Y_X11_readsNodes 1 := ⟨gT_mem (i := 941) (by decide +kernel) (by decide +kernel), gT_mem (i := 73) (by decide +kernel) (by decide +kernel), by decide +kernel⟩
theorem mi_X11_readsNodes : Cond.instanceMethod yX11_readsNodes ∈ gT := gT_mem (i := 940) (by decide +kernel) (by decide +kernel)
theorem ms_X11_readsNodes : Cond.selects RX11 yX11_readsNodes yX11_readsNodes ∈ gT := gT_mem (i := 25) (by decide +kernel) (by decide +kernel)
def Y_X11_begins : MD := (yX11_begins, cX11_begins, 1, none, 0, 0, 0, 0)
theorem mc_X11_begins : MC Y_X11_begins 0 := ⟨gT_mem (i := 824) (by decide +kernel) (by decide +kernel), gT_mem (i := 73) (by decide +kernel) (by decide +kernel), by decide +kernel⟩
theorem mi_X11_begins : Cond.instanceMethod yX11_begins ∈ gT := gT_mem (i := 823) (by decide +kernel) (by decide +kernel)
theorem ms_X11_begins : Cond.selects RX11 yX11_begins yX11_begins ∈ gT := gT_mem (i := 21) (by decide +kernel) (by decide +kernel)
def Y_X11_becomes : MD := (yX11_becomes, cX11_becomes, 2, none, 0, 0, 0, 0)
theorem mc_X11_becomes : MC Y_X11_becomes 0 := ⟨gT_mem (i := 828) (by decide +kernel) (by decide +kernel), gT_mem (i := 73) (by decide +kernel) (by decide +kernel), by decide +kernel⟩
theorem mi_X11_becomes : Cond.instanceMethod yX11_becomes ∈ gT := gT_mem (i := 827) (by decide +kernel) (by decide +kernel)
theorem ms_X11_becomes : Cond.selects RX11 yX11_becomes yX11_becomes ∈ gT := gT_mem (i := 22) (by decide +kernel) (by decide +kernel)
def Y_X11_plan : MD := (yX11_plan, cX11_plan, 3, (some .int), 5, 108, 0, 0)
theorem mc_X11_plan : MC Y_X11_plan 0 := ⟨gT_mem (i := 929) (by decide +kernel) (by decide +kernel), gT_mem (i := 73) (by decide +kernel) (by decide +kernel), by decide +kernel⟩
theorem mi_X11_plan : Cond.instanceMethod yX11_plan ∈ gT := gT_mem (i := 927) (by decide +kernel) (by decide +kernel)
theorem ms_X11_plan : Cond.selects RX11 yX11_plan yX11_plan ∈ gT := gT_mem (i := 928) (by decide +kernel) (by decide +kernel)
def Y_X11_contact : MD := (yX11_contact, cX11_contact, 3, (some .int), 2, 43, 0, 0)
theorem mc_X11_contact : MC Y_X11_contact 2 := ⟨gT_mem (i := 953) (by decide +kernel) (by decide +kernel), gT_mem (i := 73) (by decide +kernel) (by decide +kernel), by decide +kernel⟩
theorem mi_X11_contact : Cond.instanceMethod yX11_contact ∈ gT := gT_mem (i := 951) (by decide +kernel) (by decide +kernel)
theorem ms_X11_contact : Cond.selects RX11 yX11_contact yX11_contact ∈ gT := gT_mem (i := 952) (by decide +kernel) (by decide +kernel)
def Y_X11_at : MD := (yX11_at, cX11_at, 1, (some .int), 0, 0, 0, 0)
theorem mc_X11_at : MC Y_X11_at 1 := ⟨gT_mem (i := 980) (by decide +kernel) (by decide +kernel), gT_mem (i := 73) (by decide +kernel) (by decide +kernel), by decide +kernel⟩
theorem mt_X11_at : Cond.static yX11_at ∈ gT := gT_mem (i := 979) (by decide +kernel) (by decide +kernel)
def Y_X11_its : MD := (yX11_its, cX11_its, 3, (some .int), 1, 20, 0, 0)
theorem mc_X11_its : MC Y_X11_its 2 := ⟨gT_mem (i := 991) (by decide +kernel) (by decide +kernel), gT_mem (i := 73) (by decide +kernel) (by decide +kernel), by decide +kernel⟩
theorem mi_X11_its : Cond.instanceMethod yX11_its ∈ gT := gT_mem (i := 990) (by decide +kernel) (by decide +kernel)
theorem ms_X11_its : Cond.selects RX11 yX11_its yX11_its ∈ gT := gT_mem (i := 34) (by decide +kernel) (by decide +kernel)
def Y_X11_ticks : MD := (yX11_ticks, cX11_ticks, 4, (some .int), 0, 0, 0, 0)
theorem mc_X11_ticks : MC Y_X11_ticks 2 := ⟨gT_mem (i := 1019) (by decide +kernel) (by decide +kernel), gT_mem (i := 73) (by decide +kernel) (by decide +kernel), by decide +kernel⟩
theorem mi_X11_ticks : Cond.instanceMethod yX11_ticks ∈ gT := gT_mem (i := 1018) (by decide +kernel) (by decide +kernel)
theorem ms_X11_ticks : Cond.selects RX11 yX11_ticks yX11_ticks ∈ gT := gT_mem (i := 41) (by decide +kernel) (by decide +kernel)
def Y_X11_arrival : MD := (yX11_arrival, cX11_arrival, 4, (some .int), 2, 42, 0, 0)
theorem mc_X11_arrival : MC Y_X11_arrival 3 := ⟨gT_mem (i := 1015) (by decide +kernel) (by decide +kernel), gT_mem (i := 73) (by decide +kernel) (by decide +kernel), by decide +kernel⟩
theorem mi_X11_arrival : Cond.instanceMethod yX11_arrival ∈ gT := gT_mem (i := 1014) (by decide +kernel) (by decide +kernel)
theorem ms_X11_arrival : Cond.selects RX11 yX11_arrival yX11_arrival ∈ gT := gT_mem (i := 40) (by decide +kernel) (by decide +kernel)
def Y_X11_isOn : MD := (yX11_isOn, cX11_isOn, 2, (some .boolean), 2, 42, 0, 0)
theorem mc_X11_isOn : MC Y_X11_isOn 1 := ⟨gT_mem (i := 1007) (by decide +kernel) (by decide +kernel), gT_mem (i := 73) (by decide +kernel) (by decide +kernel), by decide +kernel⟩
theorem mi_X11_isOn : Cond.instanceMethod yX11_isOn ∈ gT := gT_mem (i := 1006) (by decide +kernel) (by decide +kernel)
theorem ms_X11_isOn : Cond.selects RX11 yX11_isOn yX11_isOn ∈ gT := gT_mem (i := 38) (by decide +kernel) (by decide +kernel)
def Y_X11_leads : MD := (yX11_leads, cX11_leads, 2, (some .int), 3, 63, 0, 0)
theorem mc_X11_leads : MC Y_X11_leads 1 := ⟨gT_mem (i := 1011) (by decide +kernel) (by decide +kernel), gT_mem (i := 73) (by decide +kernel) (by decide +kernel), by decide +kernel⟩
theorem mi_X11_leads : Cond.instanceMethod yX11_leads ∈ gT := gT_mem (i := 1010) (by decide +kernel) (by decide +kernel)
theorem ms_X11_leads : Cond.selects RX11 yX11_leads yX11_leads ∈ gT := gT_mem (i := 39) (by decide +kernel) (by decide +kernel)
def Y_X11_stateOf : MD := (yX11_stateOf, cX11_stateOf, 2, (some .int), 4, 84, 0, 0)
theorem mc_X11_stateOf : MC Y_X11_stateOf 1 := ⟨gT_mem (i := 1003) (by decide +kernel) (by decide +kernel), gT_mem (i := 73) (by decide +kernel) (by decide +kernel), by decide +kernel⟩
theorem mi_X11_stateOf : Cond.instanceMethod yX11_stateOf ∈ gT := gT_mem (i := 1002) (by decide +kernel) (by decide +kernel)
theorem ms_X11_stateOf : Cond.selects RX11 yX11_stateOf yX11_stateOf ∈ gT := gT_mem (i := 37) (by decide +kernel) (by decide +kernel)
def Y_X11_countOf : MD := (yX11_countOf, cX11_countOf, 4, (some .int), 5, 105, 0, 0)
theorem mc_X11_countOf : MC Y_X11_countOf 1 := ⟨gT_mem (i := 1095) (by decide +kernel) (by decide +kernel), gT_mem (i := 73) (by decide +kernel) (by decide +kernel), by decide +kernel⟩
theorem mi_X11_countOf : Cond.instanceMethod yX11_countOf ∈ gT := gT_mem (i := 1094) (by decide +kernel) (by decide +kernel)
theorem ms_X11_countOf : Cond.selects RX11 yX11_countOf yX11_countOf ∈ gT := gT_mem (i := 57) (by decide +kernel) (by decide +kernel)
def Y_X11_marks : MD := (yX11_marks, cX11_marks, 5, none, 1, 23, 0, 0)
theorem mc_X11_marks : MC Y_X11_marks 3 := ⟨gT_mem (i := 1027) (by decide +kernel) (by decide +kernel), gT_mem (i := 73) (by decide +kernel) (by decide +kernel), by decide +kernel⟩
theorem mi_X11_marks : Cond.instanceMethod yX11_marks ∈ gT := gT_mem (i := 1026) (by decide +kernel) (by decide +kernel)
theorem ms_X11_marks : Cond.selects RX11 yX11_marks yX11_marks ∈ gT := gT_mem (i := 43) (by decide +kernel) (by decide +kernel)
def Y_X11_laysTaken : MD := (yX11_laysTaken, cX11_laysTaken, 5, none, 3, 63, 0, 0)
theorem mc_X11_laysTaken : MC Y_X11_laysTaken 2 := ⟨gT_mem (i := 1023) (by decide +kernel) (by decide +kernel), gT_mem (i := 73) (by decide +kernel) (by decide +kernel), by decide +kernel⟩
theorem mi_X11_laysTaken : Cond.instanceMethod yX11_laysTaken ∈ gT := gT_mem (i := 1022) (by decide +kernel) (by decide +kernel)
theorem ms_X11_laysTaken : Cond.selects RX11 yX11_laysTaken yX11_laysTaken ∈ gT := gT_mem (i := 42) (by decide +kernel) (by decide +kernel)
def Y_X11_beginsAt : MD := (yX11_beginsAt, cX11_beginsAt, 7, (some .int), 1, 23, 0, 0)
theorem mc_X11_beginsAt : MC Y_X11_beginsAt 3 := ⟨gT_mem (i := 1043) (by decide +kernel) (by decide +kernel), gT_mem (i := 73) (by decide +kernel) (by decide +kernel), by decide +kernel⟩
theorem mi_X11_beginsAt : Cond.instanceMethod yX11_beginsAt ∈ gT := gT_mem (i := 1042) (by decide +kernel) (by decide +kernel)
theorem ms_X11_beginsAt : Cond.selects RX11 yX11_beginsAt yX11_beginsAt ∈ gT := gT_mem (i := 47) (by decide +kernel) (by decide +kernel)
def Y_X11_endsAt : MD := (yX11_endsAt, cX11_endsAt, 5, (some .int), 2, 49, 0, 0)
theorem mc_X11_endsAt : MC Y_X11_endsAt 3 := ⟨gT_mem (i := 1039) (by decide +kernel) (by decide +kernel), gT_mem (i := 73) (by decide +kernel) (by decide +kernel), by decide +kernel⟩
theorem mi_X11_endsAt : Cond.instanceMethod yX11_endsAt ∈ gT := gT_mem (i := 1038) (by decide +kernel) (by decide +kernel)
theorem ms_X11_endsAt : Cond.selects RX11 yX11_endsAt yX11_endsAt ∈ gT := gT_mem (i := 46) (by decide +kernel) (by decide +kernel)
def Y_X11_laysFirst : MD := (yX11_laysFirst, cX11_laysFirst, 11, none, 3, 73, 0, 0)
theorem mc_X11_laysFirst : MC Y_X11_laysFirst 5 := ⟨gT_mem (i := 1035) (by decide +kernel) (by decide +kernel), gT_mem (i := 73) (by decide +kernel) (by decide +kernel), by decide +kernel⟩
theorem mi_X11_laysFirst : Cond.instanceMethod yX11_laysFirst ∈ gT := gT_mem (i := 1034) (by decide +kernel) (by decide +kernel)
theorem ms_X11_laysFirst : Cond.selects RX11 yX11_laysFirst yX11_laysFirst ∈ gT := gT_mem (i := 45) (by decide +kernel) (by decide +kernel)
def Y_X11_leadsThere : MD := (yX11_leadsThere, cX11_leadsThere, 7, (some .boolean), 4, 103, 0, 0)
theorem mc_X11_leadsThere : MC Y_X11_leadsThere 6 := ⟨gT_mem (i := 1051) (by decide +kernel) (by decide +kernel), gT_mem (i := 73) (by decide +kernel) (by decide +kernel), by decide +kernel⟩
theorem mi_X11_leadsThere : Cond.instanceMethod yX11_leadsThere ∈ gT := gT_mem (i := 1050) (by decide +kernel) (by decide +kernel)
theorem ms_X11_leadsThere : Cond.selects RX11 yX11_leadsThere yX11_leadsThere ∈ gT := gT_mem (i := 49) (by decide +kernel) (by decide +kernel)
def Y_X11_findsEnd : MD := (yX11_findsEnd, cX11_findsEnd, 6, (some .boolean), 4, 103, 0, 0)
theorem mc_X11_findsEnd : MC Y_X11_findsEnd 5 := ⟨gT_mem (i := 1031) (by decide +kernel) (by decide +kernel), gT_mem (i := 73) (by decide +kernel) (by decide +kernel), by decide +kernel⟩
theorem mi_X11_findsEnd : Cond.instanceMethod yX11_findsEnd ∈ gT := gT_mem (i := 1030) (by decide +kernel) (by decide +kernel)
theorem ms_X11_findsEnd : Cond.selects RX11 yX11_findsEnd yX11_findsEnd ∈ gT := gT_mem (i := 44) (by decide +kernel) (by decide +kernel)
def Y_X11_findsWay : MD := (yX11_findsWay, cX11_findsWay, 11, none, 5, 129, 0, 0)
theorem mc_X11_findsWay : MC Y_X11_findsWay 4 := ⟨gT_mem (i := 1047) (by decide +kernel) (by decide +kernel), gT_mem (i := 73) (by decide +kernel) (by decide +kernel), by decide +kernel⟩
theorem mi_X11_findsWay : Cond.instanceMethod yX11_findsWay ∈ gT := gT_mem (i := 1046) (by decide +kernel) (by decide +kernel)
theorem ms_X11_findsWay : Cond.selects RX11 yX11_findsWay yX11_findsWay ∈ gT := gT_mem (i := 48) (by decide +kernel) (by decide +kernel)
def Y_X11_has : MD := (yX11_has, cX11_has, 2, (some .boolean), 0, 0, 0, 0)
theorem mc_X11_has : MC Y_X11_has 2 := ⟨gT_mem (i := 987) (by decide +kernel) (by decide +kernel), gT_mem (i := 73) (by decide +kernel) (by decide +kernel), by decide +kernel⟩
theorem mt_X11_has : Cond.static yX11_has ∈ gT := gT_mem (i := 986) (by decide +kernel) (by decide +kernel)
def Y_X11_givesUp : MD := (yX11_givesUp, cX11_givesUp, 2, none, 1, 20, 0, 0)
theorem mc_X11_givesUp : MC Y_X11_givesUp 1 := ⟨gT_mem (i := 999) (by decide +kernel) (by decide +kernel), gT_mem (i := 73) (by decide +kernel) (by decide +kernel), by decide +kernel⟩
theorem mi_X11_givesUp : Cond.instanceMethod yX11_givesUp ∈ gT := gT_mem (i := 998) (by decide +kernel) (by decide +kernel)
theorem ms_X11_givesUp : Cond.selects RX11 yX11_givesUp yX11_givesUp ∈ gT := gT_mem (i := 36) (by decide +kernel) (by decide +kernel)
def Y_X11_meets : MD := (yX11_meets, cX11_meets, 8, (some .boolean), 2, 42, 0, 0)
theorem mc_X11_meets : MC Y_X11_meets 4 := ⟨gT_mem (i := 1059) (by decide +kernel) (by decide +kernel), gT_mem (i := 73) (by decide +kernel) (by decide +kernel), by decide +kernel⟩
theorem mi_X11_meets : Cond.instanceMethod yX11_meets ∈ gT := gT_mem (i := 1058) (by decide +kernel) (by decide +kernel)
theorem ms_X11_meets : Cond.selects RX11 yX11_meets yX11_meets ∈ gT := gT_mem (i := 51) (by decide +kernel) (by decide +kernel)
def Y_X11_pushesOut : MD := (yX11_pushesOut, cX11_pushesOut, 7, (some .int), 3, 69, 0, 0)
theorem mc_X11_pushesOut : MC Y_X11_pushesOut 1 := ⟨gT_mem (i := 1055) (by decide +kernel) (by decide +kernel), gT_mem (i := 73) (by decide +kernel) (by decide +kernel), by decide +kernel⟩
theorem mi_X11_pushesOut : Cond.instanceMethod yX11_pushesOut ∈ gT := gT_mem (i := 1054) (by decide +kernel) (by decide +kernel)
theorem ms_X11_pushesOut : Cond.selects RX11 yX11_pushesOut yX11_pushesOut ∈ gT := gT_mem (i := 50) (by decide +kernel) (by decide +kernel)
def Y_X11_plans : MD := (yX11_plans, cX11_plans, 7, (some .int), 6, 159, 0, 0)
theorem mc_X11_plans : MC Y_X11_plans 1 := ⟨gT_mem (i := 995) (by decide +kernel) (by decide +kernel), gT_mem (i := 73) (by decide +kernel) (by decide +kernel), by decide +kernel⟩
theorem mi_X11_plans : Cond.instanceMethod yX11_plans ∈ gT := gT_mem (i := 994) (by decide +kernel) (by decide +kernel)
theorem ms_X11_plans : Cond.selects RX11 yX11_plans yX11_plans ∈ gT := gT_mem (i := 35) (by decide +kernel) (by decide +kernel)
def Y_X11_plansAll : MD := (yX11_plansAll, cX11_plansAll, 5, none, 7, 185, 0, 0)
theorem mc_X11_plansAll : MC Y_X11_plansAll 1 := ⟨gT_mem (i := 984) (by decide +kernel) (by decide +kernel), gT_mem (i := 73) (by decide +kernel) (by decide +kernel), by decide +kernel⟩
theorem mi_X11_plansAll : Cond.instanceMethod yX11_plansAll ∈ gT := gT_mem (i := 983) (by decide +kernel) (by decide +kernel)
theorem ms_X11_plansAll : Cond.selects RX11 yX11_plansAll yX11_plansAll ∈ gT := gT_mem (i := 33) (by decide +kernel) (by decide +kernel)
def Y_X11_copies : MD := (yX11_copies, cX11_copies, 6, none, 0, 0, 0, 0)
theorem mc_X11_copies : MC Y_X11_copies 4 := ⟨gT_mem (i := 977) (by decide +kernel) (by decide +kernel), gT_mem (i := 73) (by decide +kernel) (by decide +kernel), by decide +kernel⟩
theorem mi_X11_copies : Cond.instanceMethod yX11_copies ∈ gT := gT_mem (i := 976) (by decide +kernel) (by decide +kernel)
theorem ms_X11_copies : Cond.selects RX11 yX11_copies yX11_copies ∈ gT := gT_mem (i := 32) (by decide +kernel) (by decide +kernel)
def Y_X11_notes : MD := (yX11_notes, cX11_notes, 2, none, 1, 25, 0, 0)
theorem mc_X11_notes : MC Y_X11_notes 0 := ⟨gT_mem (i := 973) (by decide +kernel) (by decide +kernel), gT_mem (i := 73) (by decide +kernel) (by decide +kernel), by decide +kernel⟩
theorem mi_X11_notes : Cond.instanceMethod yX11_notes ∈ gT := gT_mem (i := 972) (by decide +kernel) (by decide +kernel)
theorem ms_X11_notes : Cond.selects RX11 yX11_notes yX11_notes ∈ gT := gT_mem (i := 31) (by decide +kernel) (by decide +kernel)
def Y_X11_sends : MD := (yX11_sends, cX11_sends, 7, (some .int), 8, 209, 0, 0)
theorem mc_X11_sends : MC Y_X11_sends 5 := ⟨gT_mem (i := 965) (by decide +kernel) (by decide +kernel), gT_mem (i := 73) (by decide +kernel) (by decide +kernel), by decide +kernel⟩
theorem mi_X11_sends : Cond.instanceMethod yX11_sends ∈ gT := gT_mem (i := 963) (by decide +kernel) (by decide +kernel)
theorem ms_X11_sends : Cond.selects RX11 yX11_sends yX11_sends ∈ gT := gT_mem (i := 964) (by decide +kernel) (by decide +kernel)
def Y_X11_lastEnd : MD := (yX11_lastEnd, cX11_lastEnd, 3, (some .int), 3, 65, 0, 0)
theorem mc_X11_lastEnd : MC Y_X11_lastEnd 1 := ⟨gT_mem (i := 1063) (by decide +kernel) (by decide +kernel), gT_mem (i := 73) (by decide +kernel) (by decide +kernel), by decide +kernel⟩
theorem mi_X11_lastEnd : Cond.instanceMethod yX11_lastEnd ∈ gT := gT_mem (i := 1062) (by decide +kernel) (by decide +kernel)
theorem ms_X11_lastEnd : Cond.selects RX11 yX11_lastEnd yX11_lastEnd ∈ gT := gT_mem (i := 52) (by decide +kernel) (by decide +kernel)
def Y_X11_drops : MD := (yX11_drops, cX11_drops, 2, (some .int), 5, 105, 0, 0)
theorem mc_X11_drops : MC Y_X11_drops 1 := ⟨gT_mem (i := 1067) (by decide +kernel) (by decide +kernel), gT_mem (i := 73) (by decide +kernel) (by decide +kernel), by decide +kernel⟩
theorem mi_X11_drops : Cond.instanceMethod yX11_drops ∈ gT := gT_mem (i := 1065) (by decide +kernel) (by decide +kernel)
theorem ms_X11_drops : Cond.selects RX11 yX11_drops yX11_drops ∈ gT := gT_mem (i := 1066) (by decide +kernel) (by decide +kernel)
def Y_X11_moves : MD := (yX11_moves, cX11_moves, 5, none, 3, 65, 0, 0)
theorem mc_X11_moves : MC Y_X11_moves 1 := ⟨gT_mem (i := 1079) (by decide +kernel) (by decide +kernel), gT_mem (i := 73) (by decide +kernel) (by decide +kernel), by decide +kernel⟩
theorem mi_X11_moves : Cond.instanceMethod yX11_moves ∈ gT := gT_mem (i := 1078) (by decide +kernel) (by decide +kernel)
theorem ms_X11_moves : Cond.selects RX11 yX11_moves yX11_moves ∈ gT := gT_mem (i := 54) (by decide +kernel) (by decide +kernel)
def Y_X11_passes : MD := (yX11_passes, cX11_passes, 3, (some .int), 4, 89, 0, 0)
theorem mc_X11_passes : MC Y_X11_passes 1 := ⟨gT_mem (i := 1075) (by decide +kernel) (by decide +kernel), gT_mem (i := 73) (by decide +kernel) (by decide +kernel), by decide +kernel⟩
theorem mi_X11_passes : Cond.instanceMethod yX11_passes ∈ gT := gT_mem (i := 1073) (by decide +kernel) (by decide +kernel)
theorem ms_X11_passes : Cond.selects RX11 yX11_passes yX11_passes ∈ gT := gT_mem (i := 1074) (by decide +kernel) (by decide +kernel)
def Y_X11_hasHopOn : MD := (yX11_hasHopOn, cX11_hasHopOn, 4, (some .boolean), 2, 42, 0, 0)
theorem mc_X11_hasHopOn : MC Y_X11_hasHopOn 2 := ⟨gT_mem (i := 1091) (by decide +kernel) (by decide +kernel), gT_mem (i := 73) (by decide +kernel) (by decide +kernel), by decide +kernel⟩
theorem mi_X11_hasHopOn : Cond.instanceMethod yX11_hasHopOn ∈ gT := gT_mem (i := 1090) (by decide +kernel) (by decide +kernel)
theorem ms_X11_hasHopOn : Cond.selects RX11 yX11_hasHopOn yX11_hasHopOn ∈ gT := gT_mem (i := 56) (by decide +kernel) (by decide +kernel)
def Y_X11_loses : MD := (yX11_loses, cX11_loses, 5, none, 8, 209, 0, 0)
theorem mc_X11_loses : MC Y_X11_loses 1 := ⟨gT_mem (i := 1087) (by decide +kernel) (by decide +kernel), gT_mem (i := 73) (by decide +kernel) (by decide +kernel), by decide +kernel⟩
theorem mi_X11_loses : Cond.instanceMethod yX11_loses ∈ gT := gT_mem (i := 1086) (by decide +kernel) (by decide +kernel)
theorem ms_X11_loses : Cond.selects RX11 yX11_loses yX11_loses ∈ gT := gT_mem (i := 55) (by decide +kernel) (by decide +kernel)
def Y_X11_misses : MD := (yX11_misses, cX11_misses, 2, (some .int), 9, 233, 0, 0)
theorem mc_X11_misses : MC Y_X11_misses 1 := ⟨gT_mem (i := 1083) (by decide +kernel) (by decide +kernel), gT_mem (i := 73) (by decide +kernel) (by decide +kernel), by decide +kernel⟩
theorem mi_X11_misses : Cond.instanceMethod yX11_misses ∈ gT := gT_mem (i := 1081) (by decide +kernel) (by decide +kernel)
theorem ms_X11_misses : Cond.selects RX11 yX11_misses yX11_misses ∈ gT := gT_mem (i := 1082) (by decide +kernel) (by decide +kernel)
def Y_X11_finds : MD := (yX11_finds, cX11_finds, 4, (some .int), 8, 209, 0, 0)
theorem mc_X11_finds : MC Y_X11_finds 1 := ⟨gT_mem (i := 1099) (by decide +kernel) (by decide +kernel), gT_mem (i := 73) (by decide +kernel) (by decide +kernel), by decide +kernel⟩
theorem mi_X11_finds : Cond.instanceMethod yX11_finds ∈ gT := gT_mem (i := 1097) (by decide +kernel) (by decide +kernel)
theorem ms_X11_finds : Cond.selects RX11 yX11_finds yX11_finds ∈ gT := gT_mem (i := 1098) (by decide +kernel) (by decide +kernel)
def Y_X11_undo : MD := (yX11_undo, cX11_undo, 1, (some .int), 1, 25, 0, 0)
theorem mc_X11_undo : MC Y_X11_undo 0 := ⟨gT_mem (i := 1103) (by decide +kernel) (by decide +kernel), gT_mem (i := 73) (by decide +kernel) (by decide +kernel), by decide +kernel⟩
theorem mi_X11_undo : Cond.instanceMethod yX11_undo ∈ gT := gT_mem (i := 1101) (by decide +kernel) (by decide +kernel)
theorem ms_X11_undo : Cond.selects RX11 yX11_undo yX11_undo ∈ gT := gT_mem (i := 1102) (by decide +kernel) (by decide +kernel)
def Y_X11_bundle : MD := (yX11_bundle, cX11_bundle, 4, (some .int), 5, 105, 0, 0)
theorem mc_X11_bundle : MC Y_X11_bundle 2 := ⟨gT_mem (i := 1107) (by decide +kernel) (by decide +kernel), gT_mem (i := 73) (by decide +kernel) (by decide +kernel), by decide +kernel⟩
theorem mi_X11_bundle : Cond.instanceMethod yX11_bundle ∈ gT := gT_mem (i := 1105) (by decide +kernel) (by decide +kernel)
theorem ms_X11_bundle : Cond.selects RX11 yX11_bundle yX11_bundle ∈ gT := gT_mem (i := 1106) (by decide +kernel) (by decide +kernel)
def Y_X11_hop : MD := (yX11_hop, cX11_hop, 5, (some .int), 3, 63, 0, 0)
theorem mc_X11_hop : MC Y_X11_hop 3 := ⟨gT_mem (i := 1111) (by decide +kernel) (by decide +kernel), gT_mem (i := 73) (by decide +kernel) (by decide +kernel), by decide +kernel⟩
theorem mi_X11_hop : Cond.instanceMethod yX11_hop ∈ gT := gT_mem (i := 1109) (by decide +kernel) (by decide +kernel)
theorem ms_X11_hop : Cond.selects RX11 yX11_hop yX11_hop ∈ gT := gT_mem (i := 1110) (by decide +kernel) (by decide +kernel)
def Y_X11_takesTick : MD := (yX11_takesTick, cX11_takesTick, 5, (some .boolean), 2, 42, 0, 0)
theorem mc_X11_takesTick : MC Y_X11_takesTick 4 := ⟨gT_mem (i := 1119) (by decide +kernel) (by decide +kernel), gT_mem (i := 73) (by decide +kernel) (by decide +kernel), by decide +kernel⟩
theorem mi_X11_takesTick : Cond.instanceMethod yX11_takesTick ∈ gT := gT_mem (i := 1118) (by decide +kernel) (by decide +kernel)
theorem ms_X11_takesTick : Cond.selects RX11 yX11_takesTick yX11_takesTick ∈ gT := gT_mem (i := 58) (by decide +kernel) (by decide +kernel)
def Y_X11_tick : MD := (yX11_tick, cX11_tick, 6, (some .int), 3, 66, 0, 0)
theorem mc_X11_tick : MC Y_X11_tick 2 := ⟨gT_mem (i := 1115) (by decide +kernel) (by decide +kernel), gT_mem (i := 73) (by decide +kernel) (by decide +kernel), by decide +kernel⟩
theorem mi_X11_tick : Cond.instanceMethod yX11_tick ∈ gT := gT_mem (i := 1113) (by decide +kernel) (by decide +kernel)
theorem ms_X11_tick : Cond.selects RX11 yX11_tick yX11_tick ∈ gT := gT_mem (i := 1114) (by decide +kernel) (by decide +kernel)
def Y_X11_askedOf : MD := (yX11_askedOf, cX11_askedOf, 6, (some .int), 5, 128, 0, 0)
theorem mc_X11_askedOf : MC Y_X11_askedOf 5 := ⟨gT_mem (i := 1127) (by decide +kernel) (by decide +kernel), gT_mem (i := 73) (by decide +kernel) (by decide +kernel), by decide +kernel⟩
theorem mi_X11_askedOf : Cond.instanceMethod yX11_askedOf ∈ gT := gT_mem (i := 1126) (by decide +kernel) (by decide +kernel)
theorem ms_X11_askedOf : Cond.selects RX11 yX11_askedOf yX11_askedOf ∈ gT := gT_mem (i := 59) (by decide +kernel) (by decide +kernel)
def Y_X11_asks : MD := (yX11_asks, cX11_asks, 5, (some .int), 6, 153, 0, 0)
theorem mc_X11_asks : MC Y_X11_asks 4 := ⟨gT_mem (i := 1123) (by decide +kernel) (by decide +kernel), gT_mem (i := 73) (by decide +kernel) (by decide +kernel), by decide +kernel⟩
theorem mi_X11_asks : Cond.instanceMethod yX11_asks ∈ gT := gT_mem (i := 1121) (by decide +kernel) (by decide +kernel)
theorem ms_X11_asks : Cond.selects RX11 yX11_asks yX11_asks ∈ gT := gT_mem (i := 1122) (by decide +kernel) (by decide +kernel)
def Y_X11_largest : MD := (yX11_largest, cX11_largest, 7, (some .int), 6, 153, 0, 0)
theorem mc_X11_largest : MC Y_X11_largest 4 := ⟨gT_mem (i := 1131) (by decide +kernel) (by decide +kernel), gT_mem (i := 73) (by decide +kernel) (by decide +kernel), by decide +kernel⟩
theorem mi_X11_largest : Cond.instanceMethod yX11_largest ∈ gT := gT_mem (i := 1129) (by decide +kernel) (by decide +kernel)
theorem ms_X11_largest : Cond.selects RX11 yX11_largest yX11_largest ∈ gT := gT_mem (i := 1130) (by decide +kernel) (by decide +kernel)
def Y_X11_worst : MD := (yX11_worst, cX11_worst, 5, (some .int), 9, 233, 0, 0)
theorem mc_X11_worst : MC Y_X11_worst 0 := ⟨gT_mem (i := 1135) (by decide +kernel) (by decide +kernel), gT_mem (i := 73) (by decide +kernel) (by decide +kernel), by decide +kernel⟩
theorem mi_X11_worst : Cond.instanceMethod yX11_worst ∈ gT := gT_mem (i := 1133) (by decide +kernel) (by decide +kernel)
theorem ms_X11_worst : Cond.selects RX11 yX11_worst yX11_worst ∈ gT := gT_mem (i := 1134) (by decide +kernel) (by decide +kernel)
def Y_X11_sees : MD := (yX11_sees, cX11_sees, 4, (some .int), 2, 43, 0, 0)
theorem mc_X11_sees : MC Y_X11_sees 3 := ⟨gT_mem (i := 1139) (by decide +kernel) (by decide +kernel), gT_mem (i := 73) (by decide +kernel) (by decide +kernel), by decide +kernel⟩
theorem mi_X11_sees : Cond.instanceMethod yX11_sees ∈ gT := gT_mem (i := 1137) (by decide +kernel) (by decide +kernel)
theorem ms_X11_sees : Cond.selects RX11 yX11_sees yX11_sees ∈ gT := gT_mem (i := 1138) (by decide +kernel) (by decide +kernel)
def Y_X11_forget : MD := (yX11_forget, cX11_forget, 2, (some .int), 0, 0, 0, 0)
theorem mc_X11_forget : MC Y_X11_forget 0 := ⟨gT_mem (i := 1143) (by decide +kernel) (by decide +kernel), gT_mem (i := 73) (by decide +kernel) (by decide +kernel), by decide +kernel⟩
theorem mi_X11_forget : Cond.instanceMethod yX11_forget ∈ gT := gT_mem (i := 1141) (by decide +kernel) (by decide +kernel)
theorem ms_X11_forget : Cond.selects RX11 yX11_forget yX11_forget ∈ gT := gT_mem (i := 1142) (by decide +kernel) (by decide +kernel)
def Y_X11_unseen : MD := (yX11_unseen, cX11_unseen, 6, (some .int), 6, 153, 0, 0)
theorem mc_X11_unseen : MC Y_X11_unseen 0 := ⟨gT_mem (i := 1147) (by decide +kernel) (by decide +kernel), gT_mem (i := 73) (by decide +kernel) (by decide +kernel), by decide +kernel⟩
theorem mi_X11_unseen : Cond.instanceMethod yX11_unseen ∈ gT := gT_mem (i := 1145) (by decide +kernel) (by decide +kernel)
theorem ms_X11_unseen : Cond.selects RX11 yX11_unseen yX11_unseen ∈ gT := gT_mem (i := 1146) (by decide +kernel) (by decide +kernel)
def Y_X11_keep : MD := (yX11_keep, cX11_keep, 2, (some .int), 1, 25, 0, 0)
theorem mc_X11_keep : MC Y_X11_keep 1 := ⟨gT_mem (i := 1151) (by decide +kernel) (by decide +kernel), gT_mem (i := 73) (by decide +kernel) (by decide +kernel), by decide +kernel⟩
theorem mi_X11_keep : Cond.instanceMethod yX11_keep ∈ gT := gT_mem (i := 1149) (by decide +kernel) (by decide +kernel)
theorem ms_X11_keep : Cond.selects RX11 yX11_keep yX11_keep ∈ gT := gT_mem (i := 1150) (by decide +kernel) (by decide +kernel)
def Y_X11_back : MD := (yX11_back, cX11_back, 2, (some .int), 1, 25, 0, 0)
theorem mc_X11_back : MC Y_X11_back 1 := ⟨gT_mem (i := 1155) (by decide +kernel) (by decide +kernel), gT_mem (i := 73) (by decide +kernel) (by decide +kernel), by decide +kernel⟩
theorem mi_X11_back : Cond.instanceMethod yX11_back ∈ gT := gT_mem (i := 1153) (by decide +kernel) (by decide +kernel)
theorem ms_X11_back : Cond.selects RX11 yX11_back yX11_back ∈ gT := gT_mem (i := 1154) (by decide +kernel) (by decide +kernel)
def Y_X11_count : MD := (yX11_count, cX11_count, 2, (some .int), 6, 128, 0, 0)
theorem mc_X11_count : MC Y_X11_count 1 := ⟨gT_mem (i := 1159) (by decide +kernel) (by decide +kernel), gT_mem (i := 73) (by decide +kernel) (by decide +kernel), by decide +kernel⟩
theorem mi_X11_count : Cond.instanceMethod yX11_count ∈ gT := gT_mem (i := 1157) (by decide +kernel) (by decide +kernel)
theorem ms_X11_count : Cond.selects RX11 yX11_count yX11_count ∈ gT := gT_mem (i := 1158) (by decide +kernel) (by decide +kernel)
def Y_J6_bitCount_0f7a4 : MD := (yJ6_bitCount_0f7a4, cJ6_bitCount_0f7a4, 1, (some .int), 0, 0, 0, 0)
theorem mc_J6_bitCount_0f7a4 : MC Y_J6_bitCount_0f7a4 1 := ⟨gT_mem (i := 715) (by decide +kernel) (by decide +kernel), gT_mem (i := 74) (by decide +kernel) (by decide +kernel), by decide +kernel⟩
theorem mt_J6_bitCount_0f7a4 : Cond.static yJ6_bitCount_0f7a4 ∈ gT := gT_mem (i := 714) (by decide +kernel) (by decide +kernel)
def Y_L_law : MD := (yL_law, cL_law, 4, ret, 2048, 84000, 600000, 7302250)
theorem oi_i : Cond.instanceMethod Lib.objectInit ∈ gT := gT_mem (i := 81) (by decide +kernel) (by decide +kernel)
theorem oi_c : Cond.code Lib.objectInit ⟨#[0xb1]⟩ 1 none ∈ gT := gT_mem (i := 82) (by decide +kernel) (by decide +kernel)
theorem ma_max_s : Cond.static Lib.Math.max.name ∈ gT := gT_mem (i := 189) (by decide +kernel) (by decide +kernel)
theorem ma_max_c : Cond.code Lib.Math.max.name Lib.Math.max.code 2 (some .int) ∈ gT := gT_mem (i := 190) (by decide +kernel) (by decide +kernel)
theorem ma_min_s : Cond.static Lib.Math.min.name ∈ gT := gT_mem (i := 436) (by decide +kernel) (by decide +kernel)
theorem ma_min_c : Cond.code Lib.Math.min.name Lib.Math.min.code 2 (some .int) ∈ gT := gT_mem (i := 437) (by decide +kernel) (by decide +kernel)
theorem ma_i : Cond.initialized "java/lang/Math" ∈ gT := gT_mem (i := 68) (by decide +kernel) (by decide +kernel)
theorem ar_int : Cond.arrayClass (newarray.typeOf .int) ∈ gT := gT_mem (i := 98) (by decide +kernel) (by decide +kernel)
theorem ar_boolean : Cond.arrayClass (newarray.typeOf .boolean) ∈ gT := gT_mem (i := 914) (by decide +kernel) (by decide +kernel)
theorem co_265 : Cond.constant RJ6 265 (I 1431655765) ∈ gT := gT_mem (i := 716) (by decide +kernel) (by decide +kernel)
theorem co_266 : Cond.constant RJ6 266 (I 858993459) ∈ gT := gT_mem (i := 717) (by decide +kernel) (by decide +kernel)
theorem co_267 : Cond.constant RJ6 267 (I 252645135) ∈ gT := gT_mem (i := 718) (by decide +kernel) (by decide +kernel)
theorem ab_0 : Cond.instantiable RX0 9 ∈ gT := gT_mem (i := 248) (by decide +kernel) (by decide +kernel)
theorem in_0 : Cond.initialized RX0 ∈ gT := gT_mem (i := 71) (by decide +kernel) (by decide +kernel)
theorem ab_1 : Cond.instantiable RX1 6 ∈ gT := gT_mem (i := 112) (by decide +kernel) (by decide +kernel)
theorem in_1 : Cond.initialized RX1 ∈ gT := gT_mem (i := 65) (by decide +kernel) (by decide +kernel)
theorem ab_2 : Cond.instantiable RX2 4 ∈ gT := gT_mem (i := 316) (by decide +kernel) (by decide +kernel)
theorem in_2 : Cond.initialized RX2 ∈ gT := gT_mem (i := 72) (by decide +kernel) (by decide +kernel)
theorem ab_3 : Cond.instantiable RX3 4 ∈ gT := gT_mem (i := 106) (by decide +kernel) (by decide +kernel)
theorem in_3 : Cond.initialized RX3 ∈ gT := gT_mem (i := 64) (by decide +kernel) (by decide +kernel)
theorem ab_4 : Cond.instantiable RX4 4 ∈ gT := gT_mem (i := 100) (by decide +kernel) (by decide +kernel)
theorem in_4 : Cond.initialized RX4 ∈ gT := gT_mem (i := 63) (by decide +kernel) (by decide +kernel)
theorem ab_5 : Cond.instantiable RX5 1 ∈ gT := gT_mem (i := 232) (by decide +kernel) (by decide +kernel)
theorem in_5 : Cond.initialized RX5 ∈ gT := gT_mem (i := 69) (by decide +kernel) (by decide +kernel)
theorem ab_6 : Cond.instantiable RX6 8 ∈ gT := gT_mem (i := 177) (by decide +kernel) (by decide +kernel)
theorem in_6 : Cond.initialized RX6 ∈ gT := gT_mem (i := 66) (by decide +kernel) (by decide +kernel)
theorem ab_7 : Cond.instantiable RX7 5 ∈ gT := gT_mem (i := 242) (by decide +kernel) (by decide +kernel)
theorem in_7 : Cond.initialized RX7 ∈ gT := gT_mem (i := 70) (by decide +kernel) (by decide +kernel)
theorem ab_8 : Cond.instantiable RX8 3 ∈ gT := gT_mem (i := 183) (by decide +kernel) (by decide +kernel)
theorem in_8 : Cond.initialized RX8 ∈ gT := gT_mem (i := 67) (by decide +kernel) (by decide +kernel)
theorem ab_9 : Cond.instantiable RX9 2 ∈ gT := gT_mem (i := 84) (by decide +kernel) (by decide +kernel)
theorem in_9 : Cond.initialized RX9 ∈ gT := gT_mem (i := 62) (by decide +kernel) (by decide +kernel)
theorem ab_10 : Cond.instantiable RX10 12 ∈ gT := gT_mem (i := 76) (by decide +kernel) (by decide +kernel)
theorem in_10 : Cond.initialized RX10 ∈ gT := gT_mem (i := 61) (by decide +kernel) (by decide +kernel)
theorem ab_11 : Cond.instantiable RX11 28 ∈ gT := gT_mem (i := 816) (by decide +kernel) (by decide +kernel)
theorem in_11 : Cond.initialized RX11 ∈ gT := gT_mem (i := 73) (by decide +kernel) (by decide +kernel)
theorem lf_X10_12 : Cond.fieldLink RX10 12 RX10 "text" "LContactWays$Text;" ∈ gT := gT_mem (i := 340) (by decide +kernel) (by decide +kernel)
theorem g_X10_12 {G : GT} {Y : MD} {Z : ZT} {c0 s0 n pc : Nat} {μ : Mem} {L : List (Nat × AV)} {st : List AV} {a : Int} (hY : Y.1.cls = RX10) (hd : decode Y.2.1 pc = .ok (.getfield 12, 3)) (ho : gx G n μ → 0 ≤ a ∧ a < n ∧ SH a = (10, 12)) (w : Wa G Y Z c0 s0 n μ (pc + 3) L (.inr (μ a 0) :: st)) : Wa G Y Z c0 s0 n μ pc L (.inr a :: st) :=
  a_getf (k := 0) cf_10 hd (by decide) rfl (by rw [hY]; exact lf_X10_12) ho (fun _ => w)
theorem gs_X10_12 {G : GT} {Y : MD} {Z : ZT} {c0 s0 n pc : Nat} {μ : Mem} {L : List (Nat × AV)} {st : List AV} {a : Int} (hY : Y.1.cls = RX10) (hd : decode Y.2.1 pc = .ok (.getfield 12, 3)) (hg : gx G = FX) (hs : St a 10 12) (w : Wa G Y Z c0 s0 n μ (pc + 3) L (.inr (1) :: st)) : Wa G Y Z c0 s0 n μ pc L (.inr a :: st) :=
  a_fx (fun f => g_X10_12 hY hd (St_ho hg hs) (by rw [hg] at f; rw [fx_10_0 f hs]; exact w))
theorem p_X10_12 {G : GT} {Y : MD} {Z : ZT} {c0 s0 n pc : Nat} {μ : Mem} {L : List (Nat × AV)} {st : List AV} {a v : Int} (hY : Y.1.cls = RX10) (hi : Y.1.name = "<init>") (hd : decode Y.2.1 pc = .ok (.putfield 12, 3)) (ho : gx G n μ → 0 ≤ a ∧ a < n ∧ SH a = (10, 12)) (hx : gx G n μ → gx G n (up μ a 0 v)) (w : Wa G Y Z c0 s0 n (up μ a 0 v) (pc + 3) L st) : Wa G Y Z c0 s0 n μ pc L (.inr v :: .inr a :: st) :=
  a_putF (k := 0) cf_10 hd (by decide) rfl hY.symm hi rfl (sm_10 0 (by decide)) (by rw [hY]; exact lf_X10_12) ho (fun _ => trivial) hx w
theorem lf_X10_21 : Cond.fieldLink RX10 21 RX10 "reader" "LContactWays$PlanReader;" ∈ gT := gT_mem (i := 341) (by decide +kernel) (by decide +kernel)
theorem g_X10_21 {G : GT} {Y : MD} {Z : ZT} {c0 s0 n pc : Nat} {μ : Mem} {L : List (Nat × AV)} {st : List AV} {a : Int} (hY : Y.1.cls = RX10) (hd : decode Y.2.1 pc = .ok (.getfield 21, 3)) (ho : gx G n μ → 0 ≤ a ∧ a < n ∧ SH a = (10, 12)) (w : Wa G Y Z c0 s0 n μ (pc + 3) L (.inr (μ a 1) :: st)) : Wa G Y Z c0 s0 n μ pc L (.inr a :: st) :=
  a_getf (k := 1) cf_10 hd (by decide) rfl (by rw [hY]; exact lf_X10_21) ho (fun _ => w)
theorem gs_X10_21 {G : GT} {Y : MD} {Z : ZT} {c0 s0 n pc : Nat} {μ : Mem} {L : List (Nat × AV)} {st : List AV} {a : Int} (hY : Y.1.cls = RX10) (hd : decode Y.2.1 pc = .ok (.getfield 21, 3)) (hg : gx G = FX) (hs : St a 10 12) (w : Wa G Y Z c0 s0 n μ (pc + 3) L (.inr (3) :: st)) : Wa G Y Z c0 s0 n μ pc L (.inr a :: st) :=
  a_fx (fun f => g_X10_21 hY hd (St_ho hg hs) (by rw [hg] at f; rw [fx_10_1 f hs]; exact w))
theorem p_X10_21 {G : GT} {Y : MD} {Z : ZT} {c0 s0 n pc : Nat} {μ : Mem} {L : List (Nat × AV)} {st : List AV} {a v : Int} (hY : Y.1.cls = RX10) (hi : Y.1.name = "<init>") (hd : decode Y.2.1 pc = .ok (.putfield 21, 3)) (ho : gx G n μ → 0 ≤ a ∧ a < n ∧ SH a = (10, 12)) (hx : gx G n μ → gx G n (up μ a 1 v)) (w : Wa G Y Z c0 s0 n (up μ a 1 v) (pc + 3) L st) : Wa G Y Z c0 s0 n μ pc L (.inr v :: .inr a :: st) :=
  a_putF (k := 1) cf_10 hd (by decide) rfl hY.symm hi rfl (sm_10 1 (by decide)) (by rw [hY]; exact lf_X10_21) ho (fun _ => trivial) hx w
theorem lf_X10_28 : Cond.fieldLink RX10 28 RX10 "network" "LContactWays$Network;" ∈ gT := gT_mem (i := 342) (by decide +kernel) (by decide +kernel)
theorem g_X10_28 {G : GT} {Y : MD} {Z : ZT} {c0 s0 n pc : Nat} {μ : Mem} {L : List (Nat × AV)} {st : List AV} {a : Int} (hY : Y.1.cls = RX10) (hd : decode Y.2.1 pc = .ok (.getfield 28, 3)) (ho : gx G n μ → 0 ≤ a ∧ a < n ∧ SH a = (10, 12)) (w : Wa G Y Z c0 s0 n μ (pc + 3) L (.inr (μ a 2) :: st)) : Wa G Y Z c0 s0 n μ pc L (.inr a :: st) :=
  a_getf (k := 2) cf_10 hd (by decide) rfl (by rw [hY]; exact lf_X10_28) ho (fun _ => w)
theorem gs_X10_28 {G : GT} {Y : MD} {Z : ZT} {c0 s0 n pc : Nat} {μ : Mem} {L : List (Nat × AV)} {st : List AV} {a : Int} (hY : Y.1.cls = RX10) (hd : decode Y.2.1 pc = .ok (.getfield 28, 3)) (hg : gx G = FX) (hs : St a 10 12) (w : Wa G Y Z c0 s0 n μ (pc + 3) L (.inr (7) :: st)) : Wa G Y Z c0 s0 n μ pc L (.inr a :: st) :=
  a_fx (fun f => g_X10_28 hY hd (St_ho hg hs) (by rw [hg] at f; rw [fx_10_2 f hs]; exact w))
theorem p_X10_28 {G : GT} {Y : MD} {Z : ZT} {c0 s0 n pc : Nat} {μ : Mem} {L : List (Nat × AV)} {st : List AV} {a v : Int} (hY : Y.1.cls = RX10) (hi : Y.1.name = "<init>") (hd : decode Y.2.1 pc = .ok (.putfield 28, 3)) (ho : gx G n μ → 0 ≤ a ∧ a < n ∧ SH a = (10, 12)) (hx : gx G n μ → gx G n (up μ a 2 v)) (w : Wa G Y Z c0 s0 n (up μ a 2 v) (pc + 3) L st) : Wa G Y Z c0 s0 n μ pc L (.inr v :: .inr a :: st) :=
  a_putF (k := 2) cf_10 hd (by decide) rfl hY.symm hi rfl (sm_10 2 (by decide)) (by rw [hY]; exact lf_X10_28) ho (fun _ => trivial) hx w
theorem lf_X10_37 : Cond.fieldLink RX10 37 RX10 "router" "LContactWays$Router;" ∈ gT := gT_mem (i := 343) (by decide +kernel) (by decide +kernel)
theorem g_X10_37 {G : GT} {Y : MD} {Z : ZT} {c0 s0 n pc : Nat} {μ : Mem} {L : List (Nat × AV)} {st : List AV} {a : Int} (hY : Y.1.cls = RX10) (hd : decode Y.2.1 pc = .ok (.getfield 37, 3)) (ho : gx G n μ → 0 ≤ a ∧ a < n ∧ SH a = (10, 12)) (w : Wa G Y Z c0 s0 n μ (pc + 3) L (.inr (μ a 3) :: st)) : Wa G Y Z c0 s0 n μ pc L (.inr a :: st) :=
  a_getf (k := 3) cf_10 hd (by decide) rfl (by rw [hY]; exact lf_X10_37) ho (fun _ => w)
theorem gs_X10_37 {G : GT} {Y : MD} {Z : ZT} {c0 s0 n pc : Nat} {μ : Mem} {L : List (Nat × AV)} {st : List AV} {a : Int} (hY : Y.1.cls = RX10) (hd : decode Y.2.1 pc = .ok (.getfield 37, 3)) (hg : gx G = FX) (hs : St a 10 12) (w : Wa G Y Z c0 s0 n μ (pc + 3) L (.inr (10) :: st)) : Wa G Y Z c0 s0 n μ pc L (.inr a :: st) :=
  a_fx (fun f => g_X10_37 hY hd (St_ho hg hs) (by rw [hg] at f; rw [fx_10_3 f hs]; exact w))
theorem p_X10_37 {G : GT} {Y : MD} {Z : ZT} {c0 s0 n pc : Nat} {μ : Mem} {L : List (Nat × AV)} {st : List AV} {a v : Int} (hY : Y.1.cls = RX10) (hi : Y.1.name = "<init>") (hd : decode Y.2.1 pc = .ok (.putfield 37, 3)) (ho : gx G n μ → 0 ≤ a ∧ a < n ∧ SH a = (10, 12)) (hx : gx G n μ → gx G n (up μ a 3 v)) (w : Wa G Y Z c0 s0 n (up μ a 3 v) (pc + 3) L st) : Wa G Y Z c0 s0 n μ pc L (.inr v :: .inr a :: st) :=
  a_putF (k := 3) cf_10 hd (by decide) rfl hY.symm hi rfl (sm_10 3 (by decide)) (by rw [hY]; exact lf_X10_37) ho (fun _ => trivial) hx w
theorem lf_X10_46 : Cond.fieldLink RX10 46 RX10 "planner" "LContactWays$Planner;" ∈ gT := gT_mem (i := 344) (by decide +kernel) (by decide +kernel)
theorem g_X10_46 {G : GT} {Y : MD} {Z : ZT} {c0 s0 n pc : Nat} {μ : Mem} {L : List (Nat × AV)} {st : List AV} {a : Int} (hY : Y.1.cls = RX10) (hd : decode Y.2.1 pc = .ok (.getfield 46, 3)) (ho : gx G n μ → 0 ≤ a ∧ a < n ∧ SH a = (10, 12)) (w : Wa G Y Z c0 s0 n μ (pc + 3) L (.inr (μ a 4) :: st)) : Wa G Y Z c0 s0 n μ pc L (.inr a :: st) :=
  a_getf (k := 4) cf_10 hd (by decide) rfl (by rw [hY]; exact lf_X10_46) ho (fun _ => w)
theorem gs_X10_46 {G : GT} {Y : MD} {Z : ZT} {c0 s0 n pc : Nat} {μ : Mem} {L : List (Nat × AV)} {st : List AV} {a : Int} (hY : Y.1.cls = RX10) (hd : decode Y.2.1 pc = .ok (.getfield 46, 3)) (hg : gx G = FX) (hs : St a 10 12) (w : Wa G Y Z c0 s0 n μ (pc + 3) L (.inr (17) :: st)) : Wa G Y Z c0 s0 n μ pc L (.inr a :: st) :=
  a_fx (fun f => g_X10_46 hY hd (St_ho hg hs) (by rw [hg] at f; rw [fx_10_4 f hs]; exact w))
theorem p_X10_46 {G : GT} {Y : MD} {Z : ZT} {c0 s0 n pc : Nat} {μ : Mem} {L : List (Nat × AV)} {st : List AV} {a v : Int} (hY : Y.1.cls = RX10) (hi : Y.1.name = "<init>") (hd : decode Y.2.1 pc = .ok (.putfield 46, 3)) (ho : gx G n μ → 0 ≤ a ∧ a < n ∧ SH a = (10, 12)) (hx : gx G n μ → gx G n (up μ a 4 v)) (w : Wa G Y Z c0 s0 n (up μ a 4 v) (pc + 3) L st) : Wa G Y Z c0 s0 n μ pc L (.inr v :: .inr a :: st) :=
  a_putF (k := 4) cf_10 hd (by decide) rfl hY.symm hi rfl (sm_10 4 (by decide)) (by rw [hY]; exact lf_X10_46) ho (fun _ => trivial) hx w
theorem lf_X10_53 : Cond.fieldLink RX10 53 RX10 "present" "LContactWays$Situation;" ∈ gT := gT_mem (i := 345) (by decide +kernel) (by decide +kernel)
theorem g_X10_53 {G : GT} {Y : MD} {Z : ZT} {c0 s0 n pc : Nat} {μ : Mem} {L : List (Nat × AV)} {st : List AV} {a : Int} (hY : Y.1.cls = RX10) (hd : decode Y.2.1 pc = .ok (.getfield 53, 3)) (ho : gx G n μ → 0 ≤ a ∧ a < n ∧ SH a = (10, 12)) (w : Wa G Y Z c0 s0 n μ (pc + 3) L (.inr (μ a 5) :: st)) : Wa G Y Z c0 s0 n μ pc L (.inr a :: st) :=
  a_getf (k := 5) cf_10 hd (by decide) rfl (by rw [hY]; exact lf_X10_53) ho (fun _ => w)
theorem gs_X10_53 {G : GT} {Y : MD} {Z : ZT} {c0 s0 n pc : Nat} {μ : Mem} {L : List (Nat × AV)} {st : List AV} {a : Int} (hY : Y.1.cls = RX10) (hd : decode Y.2.1 pc = .ok (.getfield 53, 3)) (hg : gx G = FX) (hs : St a 10 12) (w : Wa G Y Z c0 s0 n μ (pc + 3) L (.inr (18) :: st)) : Wa G Y Z c0 s0 n μ pc L (.inr a :: st) :=
  a_fx (fun f => g_X10_53 hY hd (St_ho hg hs) (by rw [hg] at f; rw [fx_10_5 f hs]; exact w))
theorem p_X10_53 {G : GT} {Y : MD} {Z : ZT} {c0 s0 n pc : Nat} {μ : Mem} {L : List (Nat × AV)} {st : List AV} {a v : Int} (hY : Y.1.cls = RX10) (hi : Y.1.name = "<init>") (hd : decode Y.2.1 pc = .ok (.putfield 53, 3)) (ho : gx G n μ → 0 ≤ a ∧ a < n ∧ SH a = (10, 12)) (hx : gx G n μ → gx G n (up μ a 5 v)) (w : Wa G Y Z c0 s0 n (up μ a 5 v) (pc + 3) L st) : Wa G Y Z c0 s0 n μ pc L (.inr v :: .inr a :: st) :=
  a_putF (k := 5) cf_10 hd (by decide) rfl hY.symm hi rfl (sm_10 5 (by decide)) (by rw [hY]; exact lf_X10_53) ho (fun _ => trivial) hx w
theorem lf_X10_57 : Cond.fieldLink RX10 57 RX10 "trial" "LContactWays$Situation;" ∈ gT := gT_mem (i := 346) (by decide +kernel) (by decide +kernel)
theorem g_X10_57 {G : GT} {Y : MD} {Z : ZT} {c0 s0 n pc : Nat} {μ : Mem} {L : List (Nat × AV)} {st : List AV} {a : Int} (hY : Y.1.cls = RX10) (hd : decode Y.2.1 pc = .ok (.getfield 57, 3)) (ho : gx G n μ → 0 ≤ a ∧ a < n ∧ SH a = (10, 12)) (w : Wa G Y Z c0 s0 n μ (pc + 3) L (.inr (μ a 6) :: st)) : Wa G Y Z c0 s0 n μ pc L (.inr a :: st) :=
  a_getf (k := 6) cf_10 hd (by decide) rfl (by rw [hY]; exact lf_X10_57) ho (fun _ => w)
theorem gs_X10_57 {G : GT} {Y : MD} {Z : ZT} {c0 s0 n pc : Nat} {μ : Mem} {L : List (Nat × AV)} {st : List AV} {a : Int} (hY : Y.1.cls = RX10) (hd : decode Y.2.1 pc = .ok (.getfield 57, 3)) (hg : gx G = FX) (hs : St a 10 12) (w : Wa G Y Z c0 s0 n μ (pc + 3) L (.inr (47) :: st)) : Wa G Y Z c0 s0 n μ pc L (.inr a :: st) :=
  a_fx (fun f => g_X10_57 hY hd (St_ho hg hs) (by rw [hg] at f; rw [fx_10_6 f hs]; exact w))
theorem p_X10_57 {G : GT} {Y : MD} {Z : ZT} {c0 s0 n pc : Nat} {μ : Mem} {L : List (Nat × AV)} {st : List AV} {a v : Int} (hY : Y.1.cls = RX10) (hi : Y.1.name = "<init>") (hd : decode Y.2.1 pc = .ok (.putfield 57, 3)) (ho : gx G n μ → 0 ≤ a ∧ a < n ∧ SH a = (10, 12)) (hx : gx G n μ → gx G n (up μ a 6 v)) (w : Wa G Y Z c0 s0 n (up μ a 6 v) (pc + 3) L st) : Wa G Y Z c0 s0 n μ pc L (.inr v :: .inr a :: st) :=
  a_putF (k := 6) cf_10 hd (by decide) rfl hY.symm hi rfl (sm_10 6 (by decide)) (by rw [hY]; exact lf_X10_57) ho (fun _ => trivial) hx w
theorem lf_X10_63 : Cond.fieldLink RX10 63 RX10 "history" "LContactWays$History;" ∈ gT := gT_mem (i := 347) (by decide +kernel) (by decide +kernel)
theorem g_X10_63 {G : GT} {Y : MD} {Z : ZT} {c0 s0 n pc : Nat} {μ : Mem} {L : List (Nat × AV)} {st : List AV} {a : Int} (hY : Y.1.cls = RX10) (hd : decode Y.2.1 pc = .ok (.getfield 63, 3)) (ho : gx G n μ → 0 ≤ a ∧ a < n ∧ SH a = (10, 12)) (w : Wa G Y Z c0 s0 n μ (pc + 3) L (.inr (μ a 7) :: st)) : Wa G Y Z c0 s0 n μ pc L (.inr a :: st) :=
  a_getf (k := 7) cf_10 hd (by decide) rfl (by rw [hY]; exact lf_X10_63) ho (fun _ => w)
theorem gs_X10_63 {G : GT} {Y : MD} {Z : ZT} {c0 s0 n pc : Nat} {μ : Mem} {L : List (Nat × AV)} {st : List AV} {a : Int} (hY : Y.1.cls = RX10) (hd : decode Y.2.1 pc = .ok (.getfield 63, 3)) (hg : gx G = FX) (hs : St a 10 12) (w : Wa G Y Z c0 s0 n μ (pc + 3) L (.inr (76) :: st)) : Wa G Y Z c0 s0 n μ pc L (.inr a :: st) :=
  a_fx (fun f => g_X10_63 hY hd (St_ho hg hs) (by rw [hg] at f; rw [fx_10_7 f hs]; exact w))
theorem p_X10_63 {G : GT} {Y : MD} {Z : ZT} {c0 s0 n pc : Nat} {μ : Mem} {L : List (Nat × AV)} {st : List AV} {a v : Int} (hY : Y.1.cls = RX10) (hi : Y.1.name = "<init>") (hd : decode Y.2.1 pc = .ok (.putfield 63, 3)) (ho : gx G n μ → 0 ≤ a ∧ a < n ∧ SH a = (10, 12)) (hx : gx G n μ → gx G n (up μ a 7 v)) (w : Wa G Y Z c0 s0 n (up μ a 7 v) (pc + 3) L st) : Wa G Y Z c0 s0 n μ pc L (.inr v :: .inr a :: st) :=
  a_putF (k := 7) cf_10 hd (by decide) rfl hY.symm hi rfl (sm_10 7 (by decide)) (by rw [hY]; exact lf_X10_63) ho (fun _ => trivial) hx w
theorem lf_X10_67 : Cond.fieldLink RX10 67 RX10 "firstImage" "LContactWays$Situation;" ∈ gT := gT_mem (i := 348) (by decide +kernel) (by decide +kernel)
theorem g_X10_67 {G : GT} {Y : MD} {Z : ZT} {c0 s0 n pc : Nat} {μ : Mem} {L : List (Nat × AV)} {st : List AV} {a : Int} (hY : Y.1.cls = RX10) (hd : decode Y.2.1 pc = .ok (.getfield 67, 3)) (ho : gx G n μ → 0 ≤ a ∧ a < n ∧ SH a = (10, 12)) (w : Wa G Y Z c0 s0 n μ (pc + 3) L (.inr (μ a 8) :: st)) : Wa G Y Z c0 s0 n μ pc L (.inr a :: st) :=
  a_getf (k := 8) cf_10 hd (by decide) rfl (by rw [hY]; exact lf_X10_67) ho (fun _ => w)
theorem gs_X10_67 {G : GT} {Y : MD} {Z : ZT} {c0 s0 n pc : Nat} {μ : Mem} {L : List (Nat × AV)} {st : List AV} {a : Int} (hY : Y.1.cls = RX10) (hd : decode Y.2.1 pc = .ok (.getfield 67, 3)) (hg : gx G = FX) (hs : St a 10 12) (w : Wa G Y Z c0 s0 n μ (pc + 3) L (.inr (339) :: st)) : Wa G Y Z c0 s0 n μ pc L (.inr a :: st) :=
  a_fx (fun f => g_X10_67 hY hd (St_ho hg hs) (by rw [hg] at f; rw [fx_10_8 f hs]; exact w))
theorem p_X10_67 {G : GT} {Y : MD} {Z : ZT} {c0 s0 n pc : Nat} {μ : Mem} {L : List (Nat × AV)} {st : List AV} {a v : Int} (hY : Y.1.cls = RX10) (hi : Y.1.name = "<init>") (hd : decode Y.2.1 pc = .ok (.putfield 67, 3)) (ho : gx G n μ → 0 ≤ a ∧ a < n ∧ SH a = (10, 12)) (hx : gx G n μ → gx G n (up μ a 8 v)) (w : Wa G Y Z c0 s0 n (up μ a 8 v) (pc + 3) L st) : Wa G Y Z c0 s0 n μ pc L (.inr v :: .inr a :: st) :=
  a_putF (k := 8) cf_10 hd (by decide) rfl hY.symm hi rfl (sm_10 8 (by decide)) (by rw [hY]; exact lf_X10_67) ho (fun _ => trivial) hx w
theorem lf_X10_70 : Cond.fieldLink RX10 70 RX10 "secondImage" "LContactWays$Situation;" ∈ gT := gT_mem (i := 349) (by decide +kernel) (by decide +kernel)
theorem g_X10_70 {G : GT} {Y : MD} {Z : ZT} {c0 s0 n pc : Nat} {μ : Mem} {L : List (Nat × AV)} {st : List AV} {a : Int} (hY : Y.1.cls = RX10) (hd : decode Y.2.1 pc = .ok (.getfield 70, 3)) (ho : gx G n μ → 0 ≤ a ∧ a < n ∧ SH a = (10, 12)) (w : Wa G Y Z c0 s0 n μ (pc + 3) L (.inr (μ a 9) :: st)) : Wa G Y Z c0 s0 n μ pc L (.inr a :: st) :=
  a_getf (k := 9) cf_10 hd (by decide) rfl (by rw [hY]; exact lf_X10_70) ho (fun _ => w)
theorem gs_X10_70 {G : GT} {Y : MD} {Z : ZT} {c0 s0 n pc : Nat} {μ : Mem} {L : List (Nat × AV)} {st : List AV} {a : Int} (hY : Y.1.cls = RX10) (hd : decode Y.2.1 pc = .ok (.getfield 70, 3)) (hg : gx G = FX) (hs : St a 10 12) (w : Wa G Y Z c0 s0 n μ (pc + 3) L (.inr (368) :: st)) : Wa G Y Z c0 s0 n μ pc L (.inr a :: st) :=
  a_fx (fun f => g_X10_70 hY hd (St_ho hg hs) (by rw [hg] at f; rw [fx_10_9 f hs]; exact w))
theorem p_X10_70 {G : GT} {Y : MD} {Z : ZT} {c0 s0 n pc : Nat} {μ : Mem} {L : List (Nat × AV)} {st : List AV} {a v : Int} (hY : Y.1.cls = RX10) (hi : Y.1.name = "<init>") (hd : decode Y.2.1 pc = .ok (.putfield 70, 3)) (ho : gx G n μ → 0 ≤ a ∧ a < n ∧ SH a = (10, 12)) (hx : gx G n μ → gx G n (up μ a 9 v)) (w : Wa G Y Z c0 s0 n (up μ a 9 v) (pc + 3) L st) : Wa G Y Z c0 s0 n μ pc L (.inr v :: .inr a :: st) :=
  a_putF (k := 9) cf_10 hd (by decide) rfl hY.symm hi rfl (sm_10 9 (by decide)) (by rw [hY]; exact lf_X10_70) ho (fun _ => trivial) hx w
theorem lf_X10_78 : Cond.fieldLink RX10 78 RX10 "observations" "LContactWays$Table;" ∈ gT := gT_mem (i := 350) (by decide +kernel) (by decide +kernel)
theorem g_X10_78 {G : GT} {Y : MD} {Z : ZT} {c0 s0 n pc : Nat} {μ : Mem} {L : List (Nat × AV)} {st : List AV} {a : Int} (hY : Y.1.cls = RX10) (hd : decode Y.2.1 pc = .ok (.getfield 78, 3)) (ho : gx G n μ → 0 ≤ a ∧ a < n ∧ SH a = (10, 12)) (w : Wa G Y Z c0 s0 n μ (pc + 3) L (.inr (μ a 10) :: st)) : Wa G Y Z c0 s0 n μ pc L (.inr a :: st) :=
  a_getf (k := 10) cf_10 hd (by decide) rfl (by rw [hY]; exact lf_X10_78) ho (fun _ => w)
theorem gs_X10_78 {G : GT} {Y : MD} {Z : ZT} {c0 s0 n pc : Nat} {μ : Mem} {L : List (Nat × AV)} {st : List AV} {a : Int} (hY : Y.1.cls = RX10) (hd : decode Y.2.1 pc = .ok (.getfield 78, 3)) (hg : gx G = FX) (hs : St a 10 12) (w : Wa G Y Z c0 s0 n μ (pc + 3) L (.inr (397) :: st)) : Wa G Y Z c0 s0 n μ pc L (.inr a :: st) :=
  a_fx (fun f => g_X10_78 hY hd (St_ho hg hs) (by rw [hg] at f; rw [fx_10_10 f hs]; exact w))
theorem p_X10_78 {G : GT} {Y : MD} {Z : ZT} {c0 s0 n pc : Nat} {μ : Mem} {L : List (Nat × AV)} {st : List AV} {a v : Int} (hY : Y.1.cls = RX10) (hi : Y.1.name = "<init>") (hd : decode Y.2.1 pc = .ok (.putfield 78, 3)) (ho : gx G n μ → 0 ≤ a ∧ a < n ∧ SH a = (10, 12)) (hx : gx G n μ → gx G n (up μ a 10 v)) (w : Wa G Y Z c0 s0 n (up μ a 10 v) (pc + 3) L st) : Wa G Y Z c0 s0 n μ pc L (.inr v :: .inr a :: st) :=
  a_putF (k := 10) cf_10 hd (by decide) rfl hY.symm hi rfl (sm_10 10 (by decide)) (by rw [hY]; exact lf_X10_78) ho (fun _ => trivial) hx w
theorem lf_X10_82 : Cond.fieldLink RX10 82 RX10 "savedImages" "I" ∈ gT := gT_mem (i := 351) (by decide +kernel) (by decide +kernel)
theorem g_X10_82 {G : GT} {Y : MD} {Z : ZT} {c0 s0 n pc : Nat} {μ : Mem} {L : List (Nat × AV)} {st : List AV} {a : Int} (hY : Y.1.cls = RX10) (hd : decode Y.2.1 pc = .ok (.getfield 82, 3)) (ho : gx G n μ → 0 ≤ a ∧ a < n ∧ SH a = (10, 12)) (w : Wa G Y Z c0 s0 n μ (pc + 3) L (.inl (μ a 11) :: st)) : Wa G Y Z c0 s0 n μ pc L (.inr a :: st) :=
  a_getf (k := 11) cf_10 hd (by decide) rfl (by rw [hY]; exact lf_X10_82) ho (fun _ => w)
theorem p_X10_82 {G : GT} {Y : MD} {Z : ZT} {c0 s0 n pc : Nat} {μ : Mem} {L : List (Nat × AV)} {st : List AV} {a v : Int} (hY : Y.1.cls = RX10) (hd : decode Y.2.1 pc = .ok (.putfield 82, 3)) (ho : gx G n μ → 0 ≤ a ∧ a < n ∧ SH a = (10, 12)) (hx : gx G n μ → gx G n (up μ a 11 v)) (w : Wa G Y Z c0 s0 n (up μ a 11 v) (pc + 3) L st) : Wa G Y Z c0 s0 n μ pc L (.inl v :: .inr a :: st) :=
  a_putf (k := 11) cf_10 hd (by decide) rfl rfl (sm_10 11 (by decide)) (by rw [hY]; exact lf_X10_82) ho (fun h => h) hx w
theorem lf_X10_98 : Cond.fieldLinkNest RX10 98 RX9 "length" "I" "ContactWays" ∈ gN := gN_mem (i := 91) (by decide +kernel) (by decide +kernel)
theorem g_X10_98 {G : GT} {Y : MD} {Z : ZT} {c0 s0 n pc : Nat} {μ : Mem} {L : List (Nat × AV)} {st : List AV} {a : Int} (hY : Y.1.cls = RX10) (hd : decode Y.2.1 pc = .ok (.getfield 98, 3)) (ho : gx G n μ → 0 ≤ a ∧ a < n ∧ SH a = (9, 2)) (w : Wa G Y Z c0 s0 n μ (pc + 3) L (.inl (μ a 1) :: st)) : Wa G Y Z c0 s0 n μ pc L (.inr a :: st) :=
  a_getfN (k := 1) cf_9 hd (by decide) rfl (by rw [hY]; exact lf_X10_98) ho (fun _ => w)
theorem lf_X10_108 : Cond.fieldLinkNest RX10 108 RX4 "draft" "LContactWays$Network;" "ContactWays" ∈ gN := gN_mem (i := 162) (by decide +kernel) (by decide +kernel)
theorem g_X10_108 {G : GT} {Y : MD} {Z : ZT} {c0 s0 n pc : Nat} {μ : Mem} {L : List (Nat × AV)} {st : List AV} {a : Int} (hY : Y.1.cls = RX10) (hd : decode Y.2.1 pc = .ok (.getfield 108, 3)) (ho : gx G n μ → 0 ≤ a ∧ a < n ∧ SH a = (4, 4)) (w : Wa G Y Z c0 s0 n μ (pc + 3) L (.inr (μ a 1) :: st)) : Wa G Y Z c0 s0 n μ pc L (.inr a :: st) :=
  a_getfN (k := 1) cf_4 hd (by decide) rfl (by rw [hY]; exact lf_X10_108) ho (fun _ => w)
theorem gs_X10_108 {G : GT} {Y : MD} {Z : ZT} {c0 s0 n pc : Nat} {μ : Mem} {L : List (Nat × AV)} {st : List AV} {a : Int} (hY : Y.1.cls = RX10) (hd : decode Y.2.1 pc = .ok (.getfield 108, 3)) (hg : gx G = FX) (hs : St a 4 4) (w : Wa G Y Z c0 s0 n μ (pc + 3) L (.inr (4) :: st)) : Wa G Y Z c0 s0 n μ pc L (.inr a :: st) :=
  a_fx (fun f => g_X10_108 hY hd (St_ho hg hs) (by rw [hg] at f; rw [fx_4_1 f hs]; exact w))
theorem lf_X10_144 : Cond.fieldLinkNest RX10 144 RX7 "bundleCount" "I" "ContactWays" ∈ gN := gN_mem (i := 298) (by decide +kernel) (by decide +kernel)
theorem g_X10_144 {G : GT} {Y : MD} {Z : ZT} {c0 s0 n pc : Nat} {μ : Mem} {L : List (Nat × AV)} {st : List AV} {a : Int} (hY : Y.1.cls = RX10) (hd : decode Y.2.1 pc = .ok (.getfield 144, 3)) (ho : gx G n μ → 0 ≤ a ∧ a < n ∧ SH a = (7, 5)) (w : Wa G Y Z c0 s0 n μ (pc + 3) L (.inl (μ a 2) :: st)) : Wa G Y Z c0 s0 n μ pc L (.inr a :: st) :=
  a_getfN (k := 2) cf_7 hd (by decide) rfl (by rw [hY]; exact lf_X10_144) ho (fun _ => w)
theorem lf_X10_177 : Cond.fieldLinkNest RX10 177 RX7 "now" "I" "ContactWays" ∈ gN := gN_mem (i := 302) (by decide +kernel) (by decide +kernel)
theorem g_X10_177 {G : GT} {Y : MD} {Z : ZT} {c0 s0 n pc : Nat} {μ : Mem} {L : List (Nat × AV)} {st : List AV} {a : Int} (hY : Y.1.cls = RX10) (hd : decode Y.2.1 pc = .ok (.getfield 177, 3)) (ho : gx G n μ → 0 ≤ a ∧ a < n ∧ SH a = (7, 5)) (w : Wa G Y Z c0 s0 n μ (pc + 3) L (.inl (μ a 3) :: st)) : Wa G Y Z c0 s0 n μ pc L (.inr a :: st) :=
  a_getfN (k := 3) cf_7 hd (by decide) rfl (by rw [hY]; exact lf_X10_177) ho (fun _ => w)
theorem lf_X10_195 : Cond.fieldLinkNest RX10 195 RX2 "kept" "I" "ContactWays" ∈ gN := gN_mem (i := 328) (by decide +kernel) (by decide +kernel)
theorem g_X10_195 {G : GT} {Y : MD} {Z : ZT} {c0 s0 n pc : Nat} {μ : Mem} {L : List (Nat × AV)} {st : List AV} {a : Int} (hY : Y.1.cls = RX10) (hd : decode Y.2.1 pc = .ok (.getfield 195, 3)) (ho : gx G n μ → 0 ≤ a ∧ a < n ∧ SH a = (2, 4)) (w : Wa G Y Z c0 s0 n μ (pc + 3) L (.inl (μ a 3) :: st)) : Wa G Y Z c0 s0 n μ pc L (.inr a :: st) :=
  a_getfN (k := 3) cf_2 hd (by decide) rfl (by rw [hY]; exact lf_X10_195) ho (fun _ => w)
theorem lf_X10_204 : Cond.fieldLinkNest RX10 204 RX0 "hops" "LContactWays$Table;" "ContactWays" ∈ gN := gN_mem (i := 259) (by decide +kernel) (by decide +kernel)
theorem g_X10_204 {G : GT} {Y : MD} {Z : ZT} {c0 s0 n pc : Nat} {μ : Mem} {L : List (Nat × AV)} {st : List AV} {a : Int} (hY : Y.1.cls = RX10) (hd : decode Y.2.1 pc = .ok (.getfield 204, 3)) (ho : gx G n μ → 0 ≤ a ∧ a < n ∧ SH a = (0, 9)) (w : Wa G Y Z c0 s0 n μ (pc + 3) L (.inr (μ a 1) :: st)) : Wa G Y Z c0 s0 n μ pc L (.inr a :: st) :=
  a_getfN (k := 1) cf_0 hd (by decide) rfl (by rw [hY]; exact lf_X10_204) ho (fun _ => w)
theorem gs_X10_204 {G : GT} {Y : MD} {Z : ZT} {c0 s0 n pc : Nat} {μ : Mem} {L : List (Nat × AV)} {st : List AV} {a : Int} (hY : Y.1.cls = RX10) (hd : decode Y.2.1 pc = .ok (.getfield 204, 3)) (hg : gx G = FX) (hs : St a 0 9) (w : Wa G Y Z c0 s0 n μ (pc + 3) L (.inr (a + 1) :: st)) : Wa G Y Z c0 s0 n μ pc L (.inr a :: st) :=
  a_fx (fun f => g_X10_204 hY hd (St_ho hg hs) (by rw [hg] at f; rw [fx_0_1 f hs]; exact w))
theorem lf_X10_220 : Cond.fieldLinkNest RX10 220 RX3 "contactCount" "I" "ContactWays" ∈ gN := gN_mem (i := 147) (by decide +kernel) (by decide +kernel)
theorem g_X10_220 {G : GT} {Y : MD} {Z : ZT} {c0 s0 n pc : Nat} {μ : Mem} {L : List (Nat × AV)} {st : List AV} {a : Int} (hY : Y.1.cls = RX10) (hd : decode Y.2.1 pc = .ok (.getfield 220, 3)) (ho : gx G n μ → 0 ≤ a ∧ a < n ∧ SH a = (3, 4)) (w : Wa G Y Z c0 s0 n μ (pc + 3) L (.inl (μ a 2) :: st)) : Wa G Y Z c0 s0 n μ pc L (.inr a :: st) :=
  a_getfN (k := 2) cf_3 hd (by decide) rfl (by rw [hY]; exact lf_X10_220) ho (fun _ => w)
theorem lf_X10_228 : Cond.fieldLinkNest RX10 228 RX8 "rows" "I" "ContactWays" ∈ gN := gN_mem (i := 197) (by decide +kernel) (by decide +kernel)
theorem g_X10_228 {G : GT} {Y : MD} {Z : ZT} {c0 s0 n pc : Nat} {μ : Mem} {L : List (Nat × AV)} {st : List AV} {a : Int} (hY : Y.1.cls = RX10) (hd : decode Y.2.1 pc = .ok (.getfield 228, 3)) (ho : gx G n μ → 0 ≤ a ∧ a < n ∧ SH a = (8, 3)) (w : Wa G Y Z c0 s0 n μ (pc + 3) L (.inl (μ a 2) :: st)) : Wa G Y Z c0 s0 n μ pc L (.inr a :: st) :=
  a_getfN (k := 2) cf_8 hd (by decide) rfl (by rw [hY]; exact lf_X10_228) ho (fun _ => w)
theorem lf_X10_245 : Cond.fieldLinkNest RX10 245 RX3 "nodes" "I" "ContactWays" ∈ gN := gN_mem (i := 150) (by decide +kernel) (by decide +kernel)
theorem g_X10_245 {G : GT} {Y : MD} {Z : ZT} {c0 s0 n pc : Nat} {μ : Mem} {L : List (Nat × AV)} {st : List AV} {a : Int} (hY : Y.1.cls = RX10) (hd : decode Y.2.1 pc = .ok (.getfield 245, 3)) (ho : gx G n μ → 0 ≤ a ∧ a < n ∧ SH a = (3, 4)) (w : Wa G Y Z c0 s0 n μ (pc + 3) L (.inl (μ a 3) :: st)) : Wa G Y Z c0 s0 n μ pc L (.inr a :: st) :=
  a_getfN (k := 3) cf_3 hd (by decide) rfl (by rw [hY]; exact lf_X10_245) ho (fun _ => w)
theorem lf_X0_9 : Cond.fieldLink RX0 9 RX0 "network" "LContactWays$Network;" ∈ gT := gT_mem (i := 255) (by decide +kernel) (by decide +kernel)
theorem g_X0_9 {G : GT} {Y : MD} {Z : ZT} {c0 s0 n pc : Nat} {μ : Mem} {L : List (Nat × AV)} {st : List AV} {a : Int} (hY : Y.1.cls = RX0) (hd : decode Y.2.1 pc = .ok (.getfield 9, 3)) (ho : gx G n μ → 0 ≤ a ∧ a < n ∧ SH a = (0, 9)) (w : Wa G Y Z c0 s0 n μ (pc + 3) L (.inr (μ a 0) :: st)) : Wa G Y Z c0 s0 n μ pc L (.inr a :: st) :=
  a_getf (k := 0) cf_0 hd (by decide) rfl (by rw [hY]; exact lf_X0_9) ho (fun _ => w)
theorem gs_X0_9 {G : GT} {Y : MD} {Z : ZT} {c0 s0 n pc : Nat} {μ : Mem} {L : List (Nat × AV)} {st : List AV} {a : Int} (hY : Y.1.cls = RX0) (hd : decode Y.2.1 pc = .ok (.getfield 9, 3)) (hg : gx G = FX) (hs : St a 0 9) (w : Wa G Y Z c0 s0 n μ (pc + 3) L (.inr (7) :: st)) : Wa G Y Z c0 s0 n μ pc L (.inr a :: st) :=
  a_fx (fun f => g_X0_9 hY hd (St_ho hg hs) (by rw [hg] at f; rw [fx_0_0 f hs]; exact w))
theorem p_X0_9 {G : GT} {Y : MD} {Z : ZT} {c0 s0 n pc : Nat} {μ : Mem} {L : List (Nat × AV)} {st : List AV} {a v : Int} (hY : Y.1.cls = RX0) (hi : Y.1.name = "<init>") (hd : decode Y.2.1 pc = .ok (.putfield 9, 3)) (ho : gx G n μ → 0 ≤ a ∧ a < n ∧ SH a = (0, 9)) (hx : gx G n μ → gx G n (up μ a 0 v)) (w : Wa G Y Z c0 s0 n (up μ a 0 v) (pc + 3) L st) : Wa G Y Z c0 s0 n μ pc L (.inr v :: .inr a :: st) :=
  a_putF (k := 0) cf_0 hd (by decide) rfl hY.symm hi rfl (sm_0 0 (by decide)) (by rw [hY]; exact lf_X0_9) ho (fun _ => trivial) hx w
theorem lf_X0_20 : Cond.fieldLink RX0 20 RX0 "hops" "LContactWays$Table;" ∈ gT := gT_mem (i := 256) (by decide +kernel) (by decide +kernel)
theorem g_X0_20 {G : GT} {Y : MD} {Z : ZT} {c0 s0 n pc : Nat} {μ : Mem} {L : List (Nat × AV)} {st : List AV} {a : Int} (hY : Y.1.cls = RX0) (hd : decode Y.2.1 pc = .ok (.getfield 20, 3)) (ho : gx G n μ → 0 ≤ a ∧ a < n ∧ SH a = (0, 9)) (w : Wa G Y Z c0 s0 n μ (pc + 3) L (.inr (μ a 1) :: st)) : Wa G Y Z c0 s0 n μ pc L (.inr a :: st) :=
  a_getf (k := 1) cf_0 hd (by decide) rfl (by rw [hY]; exact lf_X0_20) ho (fun _ => w)
theorem gs_X0_20 {G : GT} {Y : MD} {Z : ZT} {c0 s0 n pc : Nat} {μ : Mem} {L : List (Nat × AV)} {st : List AV} {a : Int} (hY : Y.1.cls = RX0) (hd : decode Y.2.1 pc = .ok (.getfield 20, 3)) (hg : gx G = FX) (hs : St a 0 9) (w : Wa G Y Z c0 s0 n μ (pc + 3) L (.inr (a + 1) :: st)) : Wa G Y Z c0 s0 n μ pc L (.inr a :: st) :=
  a_fx (fun f => g_X0_20 hY hd (St_ho hg hs) (by rw [hg] at f; rw [fx_0_1 f hs]; exact w))
theorem p_X0_20 {G : GT} {Y : MD} {Z : ZT} {c0 s0 n pc : Nat} {μ : Mem} {L : List (Nat × AV)} {st : List AV} {a v : Int} (hY : Y.1.cls = RX0) (hi : Y.1.name = "<init>") (hd : decode Y.2.1 pc = .ok (.putfield 20, 3)) (ho : gx G n μ → 0 ≤ a ∧ a < n ∧ SH a = (0, 9)) (hx : gx G n μ → gx G n (up μ a 1 v)) (w : Wa G Y Z c0 s0 n (up μ a 1 v) (pc + 3) L st) : Wa G Y Z c0 s0 n μ pc L (.inr v :: .inr a :: st) :=
  a_putF (k := 1) cf_0 hd (by decide) rfl hY.symm hi rfl (sm_0 1 (by decide)) (by rw [hY]; exact lf_X0_20) ho (fun _ => trivial) hx w
theorem lf_X0_24 : Cond.fieldLink RX0 24 RX0 "node" "I" ∈ gT := gT_mem (i := 260) (by decide +kernel) (by decide +kernel)
theorem g_X0_24 {G : GT} {Y : MD} {Z : ZT} {c0 s0 n pc : Nat} {μ : Mem} {L : List (Nat × AV)} {st : List AV} {a : Int} (hY : Y.1.cls = RX0) (hd : decode Y.2.1 pc = .ok (.getfield 24, 3)) (ho : gx G n μ → 0 ≤ a ∧ a < n ∧ SH a = (0, 9)) (w : Wa G Y Z c0 s0 n μ (pc + 3) L (.inl (μ a 2) :: st)) : Wa G Y Z c0 s0 n μ pc L (.inr a :: st) :=
  a_getf (k := 2) cf_0 hd (by decide) rfl (by rw [hY]; exact lf_X0_24) ho (fun _ => w)
theorem p_X0_24 {G : GT} {Y : MD} {Z : ZT} {c0 s0 n pc : Nat} {μ : Mem} {L : List (Nat × AV)} {st : List AV} {a v : Int} (hY : Y.1.cls = RX0) (hd : decode Y.2.1 pc = .ok (.putfield 24, 3)) (ho : gx G n μ → 0 ≤ a ∧ a < n ∧ SH a = (0, 9)) (hx : gx G n μ → gx G n (up μ a 2 v)) (w : Wa G Y Z c0 s0 n (up μ a 2 v) (pc + 3) L st) : Wa G Y Z c0 s0 n μ pc L (.inl v :: .inr a :: st) :=
  a_putf (k := 2) cf_0 hd (by decide) rfl rfl (sm_0 2 (by decide)) (by rw [hY]; exact lf_X0_24) ho (fun h => h) hx w
theorem lf_X0_28 : Cond.fieldLink RX0 28 RX0 "goal" "I" ∈ gT := gT_mem (i := 261) (by decide +kernel) (by decide +kernel)
theorem g_X0_28 {G : GT} {Y : MD} {Z : ZT} {c0 s0 n pc : Nat} {μ : Mem} {L : List (Nat × AV)} {st : List AV} {a : Int} (hY : Y.1.cls = RX0) (hd : decode Y.2.1 pc = .ok (.getfield 28, 3)) (ho : gx G n μ → 0 ≤ a ∧ a < n ∧ SH a = (0, 9)) (w : Wa G Y Z c0 s0 n μ (pc + 3) L (.inl (μ a 3) :: st)) : Wa G Y Z c0 s0 n μ pc L (.inr a :: st) :=
  a_getf (k := 3) cf_0 hd (by decide) rfl (by rw [hY]; exact lf_X0_28) ho (fun _ => w)
theorem p_X0_28 {G : GT} {Y : MD} {Z : ZT} {c0 s0 n pc : Nat} {μ : Mem} {L : List (Nat × AV)} {st : List AV} {a v : Int} (hY : Y.1.cls = RX0) (hd : decode Y.2.1 pc = .ok (.putfield 28, 3)) (ho : gx G n μ → 0 ≤ a ∧ a < n ∧ SH a = (0, 9)) (hx : gx G n μ → gx G n (up μ a 3 v)) (w : Wa G Y Z c0 s0 n (up μ a 3 v) (pc + 3) L st) : Wa G Y Z c0 s0 n μ pc L (.inl v :: .inr a :: st) :=
  a_putf (k := 3) cf_0 hd (by decide) rfl rfl (sm_0 3 (by decide)) (by rw [hY]; exact lf_X0_28) ho (fun h => h) hx w
theorem lf_X0_31 : Cond.fieldLink RX0 31 RX0 "size" "I" ∈ gT := gT_mem (i := 263) (by decide +kernel) (by decide +kernel)
theorem g_X0_31 {G : GT} {Y : MD} {Z : ZT} {c0 s0 n pc : Nat} {μ : Mem} {L : List (Nat × AV)} {st : List AV} {a : Int} (hY : Y.1.cls = RX0) (hd : decode Y.2.1 pc = .ok (.getfield 31, 3)) (ho : gx G n μ → 0 ≤ a ∧ a < n ∧ SH a = (0, 9)) (w : Wa G Y Z c0 s0 n μ (pc + 3) L (.inl (μ a 4) :: st)) : Wa G Y Z c0 s0 n μ pc L (.inr a :: st) :=
  a_getf (k := 4) cf_0 hd (by decide) rfl (by rw [hY]; exact lf_X0_31) ho (fun _ => w)
theorem p_X0_31 {G : GT} {Y : MD} {Z : ZT} {c0 s0 n pc : Nat} {μ : Mem} {L : List (Nat × AV)} {st : List AV} {a v : Int} (hY : Y.1.cls = RX0) (hd : decode Y.2.1 pc = .ok (.putfield 31, 3)) (ho : gx G n μ → 0 ≤ a ∧ a < n ∧ SH a = (0, 9)) (hx : gx G n μ → gx G n (up μ a 4 v)) (w : Wa G Y Z c0 s0 n (up μ a 4 v) (pc + 3) L st) : Wa G Y Z c0 s0 n μ pc L (.inl v :: .inr a :: st) :=
  a_putf (k := 4) cf_0 hd (by decide) rfl rfl (sm_0 4 (by decide)) (by rw [hY]; exact lf_X0_31) ho (fun h => h) hx w
theorem lf_X0_34 : Cond.fieldLink RX0 34 RX0 "deadline" "I" ∈ gT := gT_mem (i := 265) (by decide +kernel) (by decide +kernel)
theorem g_X0_34 {G : GT} {Y : MD} {Z : ZT} {c0 s0 n pc : Nat} {μ : Mem} {L : List (Nat × AV)} {st : List AV} {a : Int} (hY : Y.1.cls = RX0) (hd : decode Y.2.1 pc = .ok (.getfield 34, 3)) (ho : gx G n μ → 0 ≤ a ∧ a < n ∧ SH a = (0, 9)) (w : Wa G Y Z c0 s0 n μ (pc + 3) L (.inl (μ a 5) :: st)) : Wa G Y Z c0 s0 n μ pc L (.inr a :: st) :=
  a_getf (k := 5) cf_0 hd (by decide) rfl (by rw [hY]; exact lf_X0_34) ho (fun _ => w)
theorem p_X0_34 {G : GT} {Y : MD} {Z : ZT} {c0 s0 n pc : Nat} {μ : Mem} {L : List (Nat × AV)} {st : List AV} {a v : Int} (hY : Y.1.cls = RX0) (hd : decode Y.2.1 pc = .ok (.putfield 34, 3)) (ho : gx G n μ → 0 ≤ a ∧ a < n ∧ SH a = (0, 9)) (hx : gx G n μ → gx G n (up μ a 5 v)) (w : Wa G Y Z c0 s0 n (up μ a 5 v) (pc + 3) L st) : Wa G Y Z c0 s0 n μ pc L (.inl v :: .inr a :: st) :=
  a_putf (k := 5) cf_0 hd (by decide) rfl rfl (sm_0 5 (by decide)) (by rw [hY]; exact lf_X0_34) ho (fun h => h) hx w
theorem lf_X0_37 : Cond.fieldLink RX0 37 RX0 "priority" "I" ∈ gT := gT_mem (i := 267) (by decide +kernel) (by decide +kernel)
theorem g_X0_37 {G : GT} {Y : MD} {Z : ZT} {c0 s0 n pc : Nat} {μ : Mem} {L : List (Nat × AV)} {st : List AV} {a : Int} (hY : Y.1.cls = RX0) (hd : decode Y.2.1 pc = .ok (.getfield 37, 3)) (ho : gx G n μ → 0 ≤ a ∧ a < n ∧ SH a = (0, 9)) (w : Wa G Y Z c0 s0 n μ (pc + 3) L (.inl (μ a 6) :: st)) : Wa G Y Z c0 s0 n μ pc L (.inr a :: st) :=
  a_getf (k := 6) cf_0 hd (by decide) rfl (by rw [hY]; exact lf_X0_37) ho (fun _ => w)
theorem p_X0_37 {G : GT} {Y : MD} {Z : ZT} {c0 s0 n pc : Nat} {μ : Mem} {L : List (Nat × AV)} {st : List AV} {a v : Int} (hY : Y.1.cls = RX0) (hd : decode Y.2.1 pc = .ok (.putfield 37, 3)) (ho : gx G n μ → 0 ≤ a ∧ a < n ∧ SH a = (0, 9)) (hx : gx G n μ → gx G n (up μ a 6 v)) (w : Wa G Y Z c0 s0 n (up μ a 6 v) (pc + 3) L st) : Wa G Y Z c0 s0 n μ pc L (.inl v :: .inr a :: st) :=
  a_putf (k := 6) cf_0 hd (by decide) rfl rfl (sm_0 6 (by decide)) (by rw [hY]; exact lf_X0_37) ho (fun h => h) hx w
theorem lf_X0_40 : Cond.fieldLink RX0 40 RX0 "dropped" "Z" ∈ gT := gT_mem (i := 270) (by decide +kernel) (by decide +kernel)
theorem g_X0_40 {G : GT} {Y : MD} {Z : ZT} {c0 s0 n pc : Nat} {μ : Mem} {L : List (Nat × AV)} {st : List AV} {a : Int} (hY : Y.1.cls = RX0) (hd : decode Y.2.1 pc = .ok (.getfield 40, 3)) (ho : gx G n μ → 0 ≤ a ∧ a < n ∧ SH a = (0, 9)) (w : (μ a 7 = 0 ∨ μ a 7 = 1) → Wa G Y Z c0 s0 n μ (pc + 3) L (.inl (μ a 7) :: st)) : Wa G Y Z c0 s0 n μ pc L (.inr a :: st) :=
  a_getf (k := 7) cf_0 hd (by decide) rfl (by rw [hY]; exact lf_X0_40) ho w
theorem p_X0_40 {G : GT} {Y : MD} {Z : ZT} {c0 s0 n pc : Nat} {μ : Mem} {L : List (Nat × AV)} {st : List AV} {a v : Int} (hY : Y.1.cls = RX0) (hd : decode Y.2.1 pc = .ok (.putfield 40, 3)) (ho : gx G n μ → 0 ≤ a ∧ a < n ∧ SH a = (0, 9)) (hv : v = 0 ∨ v = 1) (hx : gx G n μ → gx G n (up μ a 7 v)) (w : Wa G Y Z c0 s0 n (up μ a 7 v) (pc + 3) L st) : Wa G Y Z c0 s0 n μ pc L (.inl v :: .inr a :: st) :=
  a_putf (k := 7) cf_0 hd (by decide) rfl rfl (sm_0 7 (by decide)) (by rw [hY]; exact lf_X0_40) ho (fun _ => hv) hx w
theorem lf_X0_44 : Cond.fieldLink RX0 44 RX0 "reason" "I" ∈ gT := gT_mem (i := 271) (by decide +kernel) (by decide +kernel)
theorem g_X0_44 {G : GT} {Y : MD} {Z : ZT} {c0 s0 n pc : Nat} {μ : Mem} {L : List (Nat × AV)} {st : List AV} {a : Int} (hY : Y.1.cls = RX0) (hd : decode Y.2.1 pc = .ok (.getfield 44, 3)) (ho : gx G n μ → 0 ≤ a ∧ a < n ∧ SH a = (0, 9)) (w : Wa G Y Z c0 s0 n μ (pc + 3) L (.inl (μ a 8) :: st)) : Wa G Y Z c0 s0 n μ pc L (.inr a :: st) :=
  a_getf (k := 8) cf_0 hd (by decide) rfl (by rw [hY]; exact lf_X0_44) ho (fun _ => w)
theorem p_X0_44 {G : GT} {Y : MD} {Z : ZT} {c0 s0 n pc : Nat} {μ : Mem} {L : List (Nat × AV)} {st : List AV} {a v : Int} (hY : Y.1.cls = RX0) (hd : decode Y.2.1 pc = .ok (.putfield 44, 3)) (ho : gx G n μ → 0 ≤ a ∧ a < n ∧ SH a = (0, 9)) (hx : gx G n μ → gx G n (up μ a 8 v)) (w : Wa G Y Z c0 s0 n (up μ a 8 v) (pc + 3) L st) : Wa G Y Z c0 s0 n μ pc L (.inl v :: .inr a :: st) :=
  a_putf (k := 8) cf_0 hd (by decide) rfl rfl (sm_0 8 (by decide)) (by rw [hY]; exact lf_X0_44) ho (fun h => h) hx w
theorem lf_X0_63 : Cond.fieldLinkNest RX0 63 RX8 "rows" "I" "ContactWays" ∈ gN := gN_mem (i := 196) (by decide +kernel) (by decide +kernel)
theorem g_X0_63 {G : GT} {Y : MD} {Z : ZT} {c0 s0 n pc : Nat} {μ : Mem} {L : List (Nat × AV)} {st : List AV} {a : Int} (hY : Y.1.cls = RX0) (hd : decode Y.2.1 pc = .ok (.getfield 63, 3)) (ho : gx G n μ → 0 ≤ a ∧ a < n ∧ SH a = (8, 3)) (w : Wa G Y Z c0 s0 n μ (pc + 3) L (.inl (μ a 2) :: st)) : Wa G Y Z c0 s0 n μ pc L (.inr a :: st) :=
  a_getfN (k := 2) cf_8 hd (by decide) rfl (by rw [hY]; exact lf_X0_63) ho (fun _ => w)
theorem lf_X0_76 : Cond.fieldLinkNest RX0 76 RX1 "to" "I" "ContactWays" ∈ gN := gN_mem (i := 120) (by decide +kernel) (by decide +kernel)
theorem g_X0_76 {G : GT} {Y : MD} {Z : ZT} {c0 s0 n pc : Nat} {μ : Mem} {L : List (Nat × AV)} {st : List AV} {a : Int} (hY : Y.1.cls = RX0) (hd : decode Y.2.1 pc = .ok (.getfield 76, 3)) (ho : gx G n μ → 0 ≤ a ∧ a < n ∧ SH a = (1, 6)) (w : Wa G Y Z c0 s0 n μ (pc + 3) L (.inl (μ a 1) :: st)) : Wa G Y Z c0 s0 n μ pc L (.inr a :: st) :=
  a_getfN (k := 1) cf_1 hd (by decide) rfl (by rw [hY]; exact lf_X0_76) ho (fun _ => w)
theorem lf_X1_9 : Cond.fieldLink RX1 9 RX1 "from" "I" ∈ gT := gT_mem (i := 117) (by decide +kernel) (by decide +kernel)
theorem g_X1_9 {G : GT} {Y : MD} {Z : ZT} {c0 s0 n pc : Nat} {μ : Mem} {L : List (Nat × AV)} {st : List AV} {a : Int} (hY : Y.1.cls = RX1) (hd : decode Y.2.1 pc = .ok (.getfield 9, 3)) (ho : gx G n μ → 0 ≤ a ∧ a < n ∧ SH a = (1, 6)) (w : Wa G Y Z c0 s0 n μ (pc + 3) L (.inl (μ a 0) :: st)) : Wa G Y Z c0 s0 n μ pc L (.inr a :: st) :=
  a_getf (k := 0) cf_1 hd (by decide) rfl (by rw [hY]; exact lf_X1_9) ho (fun _ => w)
theorem p_X1_9 {G : GT} {Y : MD} {Z : ZT} {c0 s0 n pc : Nat} {μ : Mem} {L : List (Nat × AV)} {st : List AV} {a v : Int} (hY : Y.1.cls = RX1) (hi : Y.1.name = "<init>") (hd : decode Y.2.1 pc = .ok (.putfield 9, 3)) (ho : gx G n μ → 0 ≤ a ∧ a < n ∧ SH a = (1, 6)) (hx : gx G n μ → gx G n (up μ a 0 v)) (w : Wa G Y Z c0 s0 n (up μ a 0 v) (pc + 3) L st) : Wa G Y Z c0 s0 n μ pc L (.inl v :: .inr a :: st) :=
  a_putF (k := 0) cf_1 hd (by decide) rfl hY.symm hi rfl (sm_1 0 (by decide)) (by rw [hY]; exact lf_X1_9) ho (fun h => h) hx w
theorem lf_X1_15 : Cond.fieldLink RX1 15 RX1 "to" "I" ∈ gT := gT_mem (i := 119) (by decide +kernel) (by decide +kernel)
theorem g_X1_15 {G : GT} {Y : MD} {Z : ZT} {c0 s0 n pc : Nat} {μ : Mem} {L : List (Nat × AV)} {st : List AV} {a : Int} (hY : Y.1.cls = RX1) (hd : decode Y.2.1 pc = .ok (.getfield 15, 3)) (ho : gx G n μ → 0 ≤ a ∧ a < n ∧ SH a = (1, 6)) (w : Wa G Y Z c0 s0 n μ (pc + 3) L (.inl (μ a 1) :: st)) : Wa G Y Z c0 s0 n μ pc L (.inr a :: st) :=
  a_getf (k := 1) cf_1 hd (by decide) rfl (by rw [hY]; exact lf_X1_15) ho (fun _ => w)
theorem p_X1_15 {G : GT} {Y : MD} {Z : ZT} {c0 s0 n pc : Nat} {μ : Mem} {L : List (Nat × AV)} {st : List AV} {a v : Int} (hY : Y.1.cls = RX1) (hi : Y.1.name = "<init>") (hd : decode Y.2.1 pc = .ok (.putfield 15, 3)) (ho : gx G n μ → 0 ≤ a ∧ a < n ∧ SH a = (1, 6)) (hx : gx G n μ → gx G n (up μ a 1 v)) (w : Wa G Y Z c0 s0 n (up μ a 1 v) (pc + 3) L st) : Wa G Y Z c0 s0 n μ pc L (.inl v :: .inr a :: st) :=
  a_putF (k := 1) cf_1 hd (by decide) rfl hY.symm hi rfl (sm_1 1 (by decide)) (by rw [hY]; exact lf_X1_15) ho (fun h => h) hx w
theorem lf_X1_18 : Cond.fieldLink RX1 18 RX1 "start" "I" ∈ gT := gT_mem (i := 122) (by decide +kernel) (by decide +kernel)
theorem g_X1_18 {G : GT} {Y : MD} {Z : ZT} {c0 s0 n pc : Nat} {μ : Mem} {L : List (Nat × AV)} {st : List AV} {a : Int} (hY : Y.1.cls = RX1) (hd : decode Y.2.1 pc = .ok (.getfield 18, 3)) (ho : gx G n μ → 0 ≤ a ∧ a < n ∧ SH a = (1, 6)) (w : Wa G Y Z c0 s0 n μ (pc + 3) L (.inl (μ a 2) :: st)) : Wa G Y Z c0 s0 n μ pc L (.inr a :: st) :=
  a_getf (k := 2) cf_1 hd (by decide) rfl (by rw [hY]; exact lf_X1_18) ho (fun _ => w)
theorem p_X1_18 {G : GT} {Y : MD} {Z : ZT} {c0 s0 n pc : Nat} {μ : Mem} {L : List (Nat × AV)} {st : List AV} {a v : Int} (hY : Y.1.cls = RX1) (hi : Y.1.name = "<init>") (hd : decode Y.2.1 pc = .ok (.putfield 18, 3)) (ho : gx G n μ → 0 ≤ a ∧ a < n ∧ SH a = (1, 6)) (hx : gx G n μ → gx G n (up μ a 2 v)) (w : Wa G Y Z c0 s0 n (up μ a 2 v) (pc + 3) L st) : Wa G Y Z c0 s0 n μ pc L (.inl v :: .inr a :: st) :=
  a_putF (k := 2) cf_1 hd (by decide) rfl hY.symm hi rfl (sm_1 2 (by decide)) (by rw [hY]; exact lf_X1_18) ho (fun h => h) hx w
theorem lf_X1_21 : Cond.fieldLink RX1 21 RX1 "end" "I" ∈ gT := gT_mem (i := 124) (by decide +kernel) (by decide +kernel)
theorem g_X1_21 {G : GT} {Y : MD} {Z : ZT} {c0 s0 n pc : Nat} {μ : Mem} {L : List (Nat × AV)} {st : List AV} {a : Int} (hY : Y.1.cls = RX1) (hd : decode Y.2.1 pc = .ok (.getfield 21, 3)) (ho : gx G n μ → 0 ≤ a ∧ a < n ∧ SH a = (1, 6)) (w : Wa G Y Z c0 s0 n μ (pc + 3) L (.inl (μ a 3) :: st)) : Wa G Y Z c0 s0 n μ pc L (.inr a :: st) :=
  a_getf (k := 3) cf_1 hd (by decide) rfl (by rw [hY]; exact lf_X1_21) ho (fun _ => w)
theorem p_X1_21 {G : GT} {Y : MD} {Z : ZT} {c0 s0 n pc : Nat} {μ : Mem} {L : List (Nat × AV)} {st : List AV} {a v : Int} (hY : Y.1.cls = RX1) (hi : Y.1.name = "<init>") (hd : decode Y.2.1 pc = .ok (.putfield 21, 3)) (ho : gx G n μ → 0 ≤ a ∧ a < n ∧ SH a = (1, 6)) (hx : gx G n μ → gx G n (up μ a 3 v)) (w : Wa G Y Z c0 s0 n (up μ a 3 v) (pc + 3) L st) : Wa G Y Z c0 s0 n μ pc L (.inl v :: .inr a :: st) :=
  a_putF (k := 3) cf_1 hd (by decide) rfl hY.symm hi rfl (sm_1 3 (by decide)) (by rw [hY]; exact lf_X1_21) ho (fun h => h) hx w
theorem lf_X1_24 : Cond.fieldLink RX1 24 RX1 "rate" "I" ∈ gT := gT_mem (i := 126) (by decide +kernel) (by decide +kernel)
theorem g_X1_24 {G : GT} {Y : MD} {Z : ZT} {c0 s0 n pc : Nat} {μ : Mem} {L : List (Nat × AV)} {st : List AV} {a : Int} (hY : Y.1.cls = RX1) (hd : decode Y.2.1 pc = .ok (.getfield 24, 3)) (ho : gx G n μ → 0 ≤ a ∧ a < n ∧ SH a = (1, 6)) (w : Wa G Y Z c0 s0 n μ (pc + 3) L (.inl (μ a 4) :: st)) : Wa G Y Z c0 s0 n μ pc L (.inr a :: st) :=
  a_getf (k := 4) cf_1 hd (by decide) rfl (by rw [hY]; exact lf_X1_24) ho (fun _ => w)
theorem p_X1_24 {G : GT} {Y : MD} {Z : ZT} {c0 s0 n pc : Nat} {μ : Mem} {L : List (Nat × AV)} {st : List AV} {a v : Int} (hY : Y.1.cls = RX1) (hi : Y.1.name = "<init>") (hd : decode Y.2.1 pc = .ok (.putfield 24, 3)) (ho : gx G n μ → 0 ≤ a ∧ a < n ∧ SH a = (1, 6)) (hx : gx G n μ → gx G n (up μ a 4 v)) (w : Wa G Y Z c0 s0 n (up μ a 4 v) (pc + 3) L st) : Wa G Y Z c0 s0 n μ pc L (.inl v :: .inr a :: st) :=
  a_putF (k := 4) cf_1 hd (by decide) rfl hY.symm hi rfl (sm_1 4 (by decide)) (by rw [hY]; exact lf_X1_24) ho (fun h => h) hx w
theorem lf_X1_27 : Cond.fieldLink RX1 27 RX1 "light" "I" ∈ gT := gT_mem (i := 127) (by decide +kernel) (by decide +kernel)
theorem g_X1_27 {G : GT} {Y : MD} {Z : ZT} {c0 s0 n pc : Nat} {μ : Mem} {L : List (Nat × AV)} {st : List AV} {a : Int} (hY : Y.1.cls = RX1) (hd : decode Y.2.1 pc = .ok (.getfield 27, 3)) (ho : gx G n μ → 0 ≤ a ∧ a < n ∧ SH a = (1, 6)) (w : Wa G Y Z c0 s0 n μ (pc + 3) L (.inl (μ a 5) :: st)) : Wa G Y Z c0 s0 n μ pc L (.inr a :: st) :=
  a_getf (k := 5) cf_1 hd (by decide) rfl (by rw [hY]; exact lf_X1_27) ho (fun _ => w)
theorem p_X1_27 {G : GT} {Y : MD} {Z : ZT} {c0 s0 n pc : Nat} {μ : Mem} {L : List (Nat × AV)} {st : List AV} {a v : Int} (hY : Y.1.cls = RX1) (hi : Y.1.name = "<init>") (hd : decode Y.2.1 pc = .ok (.putfield 27, 3)) (ho : gx G n μ → 0 ≤ a ∧ a < n ∧ SH a = (1, 6)) (hx : gx G n μ → gx G n (up μ a 5 v)) (w : Wa G Y Z c0 s0 n (up μ a 5 v) (pc + 3) L st) : Wa G Y Z c0 s0 n μ pc L (.inl v :: .inr a :: st) :=
  a_putF (k := 5) cf_1 hd (by decide) rfl hY.symm hi rfl (sm_1 5 (by decide)) (by rw [hY]; exact lf_X1_27) ho (fun h => h) hx w
theorem lf_X2_14 : Cond.fieldLink RX2 14 RX2 "spare" "LContactWays$Situation;" ∈ gT := gT_mem (i := 324) (by decide +kernel) (by decide +kernel)
theorem g_X2_14 {G : GT} {Y : MD} {Z : ZT} {c0 s0 n pc : Nat} {μ : Mem} {L : List (Nat × AV)} {st : List AV} {a : Int} (hY : Y.1.cls = RX2) (hd : decode Y.2.1 pc = .ok (.getfield 14, 3)) (ho : gx G n μ → 0 ≤ a ∧ a < n ∧ SH a = (2, 4)) (w : Wa G Y Z c0 s0 n μ (pc + 3) L (.inr (μ a 0) :: st)) : Wa G Y Z c0 s0 n μ pc L (.inr a :: st) :=
  a_getf (k := 0) cf_2 hd (by decide) rfl (by rw [hY]; exact lf_X2_14) ho (fun _ => w)
theorem gs_X2_14 {G : GT} {Y : MD} {Z : ZT} {c0 s0 n pc : Nat} {μ : Mem} {L : List (Nat × AV)} {st : List AV} {a : Int} (hY : Y.1.cls = RX2) (hd : decode Y.2.1 pc = .ok (.getfield 14, 3)) (hg : gx G = FX) (hs : St a 2 4) (w : Wa G Y Z c0 s0 n μ (pc + 3) L (.inr (77) :: st)) : Wa G Y Z c0 s0 n μ pc L (.inr a :: st) :=
  a_fx (fun f => g_X2_14 hY hd (St_ho hg hs) (by rw [hg] at f; rw [fx_2_0 f hs]; exact w))
theorem p_X2_14 {G : GT} {Y : MD} {Z : ZT} {c0 s0 n pc : Nat} {μ : Mem} {L : List (Nat × AV)} {st : List AV} {a v : Int} (hY : Y.1.cls = RX2) (hi : Y.1.name = "<init>") (hd : decode Y.2.1 pc = .ok (.putfield 14, 3)) (ho : gx G n μ → 0 ≤ a ∧ a < n ∧ SH a = (2, 4)) (hx : gx G n μ → gx G n (up μ a 0 v)) (w : Wa G Y Z c0 s0 n (up μ a 0 v) (pc + 3) L st) : Wa G Y Z c0 s0 n μ pc L (.inr v :: .inr a :: st) :=
  a_putF (k := 0) cf_2 hd (by decide) rfl hY.symm hi rfl (sm_2 0 (by decide)) (by rw [hY]; exact lf_X2_14) ho (fun _ => trivial) hx w
theorem lf_X2_20 : Cond.fieldLink RX2 20 RX2 "slots" "[LContactWays$Situation;" ∈ gT := gT_mem (i := 325) (by decide +kernel) (by decide +kernel)
theorem g_X2_20 {G : GT} {Y : MD} {Z : ZT} {c0 s0 n pc : Nat} {μ : Mem} {L : List (Nat × AV)} {st : List AV} {a : Int} (hY : Y.1.cls = RX2) (hd : decode Y.2.1 pc = .ok (.getfield 20, 3)) (ho : gx G n μ → 0 ≤ a ∧ a < n ∧ SH a = (2, 4)) (w : Wa G Y Z c0 s0 n μ (pc + 3) L (.inr (μ a 1) :: st)) : Wa G Y Z c0 s0 n μ pc L (.inr a :: st) :=
  a_getf (k := 1) cf_2 hd (by decide) rfl (by rw [hY]; exact lf_X2_20) ho (fun _ => w)
theorem gs_X2_20 {G : GT} {Y : MD} {Z : ZT} {c0 s0 n pc : Nat} {μ : Mem} {L : List (Nat × AV)} {st : List AV} {a : Int} (hY : Y.1.cls = RX2) (hd : decode Y.2.1 pc = .ok (.getfield 20, 3)) (hg : gx G = FX) (hs : St a 2 4) (w : Wa G Y Z c0 s0 n μ (pc + 3) L (.inr (106) :: st)) : Wa G Y Z c0 s0 n μ pc L (.inr a :: st) :=
  a_fx (fun f => g_X2_20 hY hd (St_ho hg hs) (by rw [hg] at f; rw [fx_2_1 f hs]; exact w))
theorem p_X2_20 {G : GT} {Y : MD} {Z : ZT} {c0 s0 n pc : Nat} {μ : Mem} {L : List (Nat × AV)} {st : List AV} {a v : Int} (hY : Y.1.cls = RX2) (hi : Y.1.name = "<init>") (hd : decode Y.2.1 pc = .ok (.putfield 20, 3)) (ho : gx G n μ → 0 ≤ a ∧ a < n ∧ SH a = (2, 4)) (hx : gx G n μ → gx G n (up μ a 1 v)) (w : Wa G Y Z c0 s0 n (up μ a 1 v) (pc + 3) L st) : Wa G Y Z c0 s0 n μ pc L (.inr v :: .inr a :: st) :=
  a_putF (k := 1) cf_2 hd (by decide) rfl hY.symm hi rfl (sm_2 1 (by decide)) (by rw [hY]; exact lf_X2_20) ho (fun _ => trivial) hx w
theorem lf_X2_24 : Cond.fieldLink RX2 24 RX2 "next" "I" ∈ gT := gT_mem (i := 326) (by decide +kernel) (by decide +kernel)
theorem g_X2_24 {G : GT} {Y : MD} {Z : ZT} {c0 s0 n pc : Nat} {μ : Mem} {L : List (Nat × AV)} {st : List AV} {a : Int} (hY : Y.1.cls = RX2) (hd : decode Y.2.1 pc = .ok (.getfield 24, 3)) (ho : gx G n μ → 0 ≤ a ∧ a < n ∧ SH a = (2, 4)) (w : Wa G Y Z c0 s0 n μ (pc + 3) L (.inl (μ a 2) :: st)) : Wa G Y Z c0 s0 n μ pc L (.inr a :: st) :=
  a_getf (k := 2) cf_2 hd (by decide) rfl (by rw [hY]; exact lf_X2_24) ho (fun _ => w)
theorem p_X2_24 {G : GT} {Y : MD} {Z : ZT} {c0 s0 n pc : Nat} {μ : Mem} {L : List (Nat × AV)} {st : List AV} {a v : Int} (hY : Y.1.cls = RX2) (hd : decode Y.2.1 pc = .ok (.putfield 24, 3)) (ho : gx G n μ → 0 ≤ a ∧ a < n ∧ SH a = (2, 4)) (hx : gx G n μ → gx G n (up μ a 2 v)) (w : Wa G Y Z c0 s0 n (up μ a 2 v) (pc + 3) L st) : Wa G Y Z c0 s0 n μ pc L (.inl v :: .inr a :: st) :=
  a_putf (k := 2) cf_2 hd (by decide) rfl rfl (sm_2 2 (by decide)) (by rw [hY]; exact lf_X2_24) ho (fun h => h) hx w
theorem lf_X2_28 : Cond.fieldLink RX2 28 RX2 "kept" "I" ∈ gT := gT_mem (i := 327) (by decide +kernel) (by decide +kernel)
theorem g_X2_28 {G : GT} {Y : MD} {Z : ZT} {c0 s0 n pc : Nat} {μ : Mem} {L : List (Nat × AV)} {st : List AV} {a : Int} (hY : Y.1.cls = RX2) (hd : decode Y.2.1 pc = .ok (.getfield 28, 3)) (ho : gx G n μ → 0 ≤ a ∧ a < n ∧ SH a = (2, 4)) (w : Wa G Y Z c0 s0 n μ (pc + 3) L (.inl (μ a 3) :: st)) : Wa G Y Z c0 s0 n μ pc L (.inr a :: st) :=
  a_getf (k := 3) cf_2 hd (by decide) rfl (by rw [hY]; exact lf_X2_28) ho (fun _ => w)
theorem p_X2_28 {G : GT} {Y : MD} {Z : ZT} {c0 s0 n pc : Nat} {μ : Mem} {L : List (Nat × AV)} {st : List AV} {a v : Int} (hY : Y.1.cls = RX2) (hd : decode Y.2.1 pc = .ok (.putfield 28, 3)) (ho : gx G n μ → 0 ≤ a ∧ a < n ∧ SH a = (2, 4)) (hx : gx G n μ → gx G n (up μ a 3 v)) (w : Wa G Y Z c0 s0 n (up μ a 3 v) (pc + 3) L st) : Wa G Y Z c0 s0 n μ pc L (.inl v :: .inr a :: st) :=
  a_putf (k := 3) cf_2 hd (by decide) rfl rfl (sm_2 3 (by decide)) (by rw [hY]; exact lf_X2_28) ho (fun h => h) hx w
theorem lf_X3_14 : Cond.fieldLink RX3 14 RX3 "nowhere" "LContactWays$Contact;" ∈ gT := gT_mem (i := 143) (by decide +kernel) (by decide +kernel)
theorem g_X3_14 {G : GT} {Y : MD} {Z : ZT} {c0 s0 n pc : Nat} {μ : Mem} {L : List (Nat × AV)} {st : List AV} {a : Int} (hY : Y.1.cls = RX3) (hd : decode Y.2.1 pc = .ok (.getfield 14, 3)) (ho : gx G n μ → 0 ≤ a ∧ a < n ∧ SH a = (3, 4)) (w : Wa G Y Z c0 s0 n μ (pc + 3) L (.inr (μ a 0) :: st)) : Wa G Y Z c0 s0 n μ pc L (.inr a :: st) :=
  a_getf (k := 0) cf_3 hd (by decide) rfl (by rw [hY]; exact lf_X3_14) ho (fun _ => w)
theorem gs_X3_14 {G : GT} {Y : MD} {Z : ZT} {c0 s0 n pc : Nat} {μ : Mem} {L : List (Nat × AV)} {st : List AV} {a : Int} (hY : Y.1.cls = RX3) (hd : decode Y.2.1 pc = .ok (.getfield 14, 3)) (hg : gx G = FX) (hs : St a 3 4) (w : Wa G Y Z c0 s0 n μ (pc + 3) L (.inr (a + 1) :: st)) : Wa G Y Z c0 s0 n μ pc L (.inr a :: st) :=
  a_fx (fun f => g_X3_14 hY hd (St_ho hg hs) (by rw [hg] at f; rw [fx_3_0 f hs]; exact w))
theorem p_X3_14 {G : GT} {Y : MD} {Z : ZT} {c0 s0 n pc : Nat} {μ : Mem} {L : List (Nat × AV)} {st : List AV} {a v : Int} (hY : Y.1.cls = RX3) (hi : Y.1.name = "<init>") (hd : decode Y.2.1 pc = .ok (.putfield 14, 3)) (ho : gx G n μ → 0 ≤ a ∧ a < n ∧ SH a = (3, 4)) (hx : gx G n μ → gx G n (up μ a 0 v)) (w : Wa G Y Z c0 s0 n (up μ a 0 v) (pc + 3) L st) : Wa G Y Z c0 s0 n μ pc L (.inr v :: .inr a :: st) :=
  a_putF (k := 0) cf_3 hd (by decide) rfl hY.symm hi rfl (sm_3 0 (by decide)) (by rw [hY]; exact lf_X3_14) ho (fun _ => trivial) hx w
theorem lf_X3_20 : Cond.fieldLink RX3 20 RX3 "contacts" "[LContactWays$Contact;" ∈ gT := gT_mem (i := 144) (by decide +kernel) (by decide +kernel)
theorem g_X3_20 {G : GT} {Y : MD} {Z : ZT} {c0 s0 n pc : Nat} {μ : Mem} {L : List (Nat × AV)} {st : List AV} {a : Int} (hY : Y.1.cls = RX3) (hd : decode Y.2.1 pc = .ok (.getfield 20, 3)) (ho : gx G n μ → 0 ≤ a ∧ a < n ∧ SH a = (3, 4)) (w : Wa G Y Z c0 s0 n μ (pc + 3) L (.inr (μ a 1) :: st)) : Wa G Y Z c0 s0 n μ pc L (.inr a :: st) :=
  a_getf (k := 1) cf_3 hd (by decide) rfl (by rw [hY]; exact lf_X3_20) ho (fun _ => w)
theorem gs_X3_20 {G : GT} {Y : MD} {Z : ZT} {c0 s0 n pc : Nat} {μ : Mem} {L : List (Nat × AV)} {st : List AV} {a : Int} (hY : Y.1.cls = RX3) (hd : decode Y.2.1 pc = .ok (.getfield 20, 3)) (hg : gx G = FX) (hs : St a 3 4) (w : Wa G Y Z c0 s0 n μ (pc + 3) L (.inr (a + 2) :: st)) : Wa G Y Z c0 s0 n μ pc L (.inr a :: st) :=
  a_fx (fun f => g_X3_20 hY hd (St_ho hg hs) (by rw [hg] at f; rw [fx_3_1 f hs]; exact w))
theorem p_X3_20 {G : GT} {Y : MD} {Z : ZT} {c0 s0 n pc : Nat} {μ : Mem} {L : List (Nat × AV)} {st : List AV} {a v : Int} (hY : Y.1.cls = RX3) (hi : Y.1.name = "<init>") (hd : decode Y.2.1 pc = .ok (.putfield 20, 3)) (ho : gx G n μ → 0 ≤ a ∧ a < n ∧ SH a = (3, 4)) (hx : gx G n μ → gx G n (up μ a 1 v)) (w : Wa G Y Z c0 s0 n (up μ a 1 v) (pc + 3) L st) : Wa G Y Z c0 s0 n μ pc L (.inr v :: .inr a :: st) :=
  a_putF (k := 1) cf_3 hd (by decide) rfl hY.symm hi rfl (sm_3 1 (by decide)) (by rw [hY]; exact lf_X3_20) ho (fun _ => trivial) hx w
theorem lf_X3_24 : Cond.fieldLink RX3 24 RX3 "contactCount" "I" ∈ gT := gT_mem (i := 145) (by decide +kernel) (by decide +kernel)
theorem g_X3_24 {G : GT} {Y : MD} {Z : ZT} {c0 s0 n pc : Nat} {μ : Mem} {L : List (Nat × AV)} {st : List AV} {a : Int} (hY : Y.1.cls = RX3) (hd : decode Y.2.1 pc = .ok (.getfield 24, 3)) (ho : gx G n μ → 0 ≤ a ∧ a < n ∧ SH a = (3, 4)) (w : Wa G Y Z c0 s0 n μ (pc + 3) L (.inl (μ a 2) :: st)) : Wa G Y Z c0 s0 n μ pc L (.inr a :: st) :=
  a_getf (k := 2) cf_3 hd (by decide) rfl (by rw [hY]; exact lf_X3_24) ho (fun _ => w)
theorem p_X3_24 {G : GT} {Y : MD} {Z : ZT} {c0 s0 n pc : Nat} {μ : Mem} {L : List (Nat × AV)} {st : List AV} {a v : Int} (hY : Y.1.cls = RX3) (hd : decode Y.2.1 pc = .ok (.putfield 24, 3)) (ho : gx G n μ → 0 ≤ a ∧ a < n ∧ SH a = (3, 4)) (hx : gx G n μ → gx G n (up μ a 2 v)) (w : Wa G Y Z c0 s0 n (up μ a 2 v) (pc + 3) L st) : Wa G Y Z c0 s0 n μ pc L (.inl v :: .inr a :: st) :=
  a_putf (k := 2) cf_3 hd (by decide) rfl rfl (sm_3 2 (by decide)) (by rw [hY]; exact lf_X3_24) ho (fun h => h) hx w
theorem lf_X3_28 : Cond.fieldLink RX3 28 RX3 "nodes" "I" ∈ gT := gT_mem (i := 148) (by decide +kernel) (by decide +kernel)
theorem g_X3_28 {G : GT} {Y : MD} {Z : ZT} {c0 s0 n pc : Nat} {μ : Mem} {L : List (Nat × AV)} {st : List AV} {a : Int} (hY : Y.1.cls = RX3) (hd : decode Y.2.1 pc = .ok (.getfield 28, 3)) (ho : gx G n μ → 0 ≤ a ∧ a < n ∧ SH a = (3, 4)) (w : Wa G Y Z c0 s0 n μ (pc + 3) L (.inl (μ a 3) :: st)) : Wa G Y Z c0 s0 n μ pc L (.inr a :: st) :=
  a_getf (k := 3) cf_3 hd (by decide) rfl (by rw [hY]; exact lf_X3_28) ho (fun _ => w)
theorem p_X3_28 {G : GT} {Y : MD} {Z : ZT} {c0 s0 n pc : Nat} {μ : Mem} {L : List (Nat × AV)} {st : List AV} {a v : Int} (hY : Y.1.cls = RX3) (hd : decode Y.2.1 pc = .ok (.putfield 28, 3)) (ho : gx G n μ → 0 ≤ a ∧ a < n ∧ SH a = (3, 4)) (hx : gx G n μ → gx G n (up μ a 3 v)) (w : Wa G Y Z c0 s0 n (up μ a 3 v) (pc + 3) L st) : Wa G Y Z c0 s0 n μ pc L (.inl v :: .inr a :: st) :=
  a_putf (k := 3) cf_3 hd (by decide) rfl rfl (sm_3 3 (by decide)) (by rw [hY]; exact lf_X3_28) ho (fun h => h) hx w
theorem lf_X4_9 : Cond.fieldLink RX4 9 RX4 "text" "LContactWays$Text;" ∈ gT := gT_mem (i := 160) (by decide +kernel) (by decide +kernel)
theorem g_X4_9 {G : GT} {Y : MD} {Z : ZT} {c0 s0 n pc : Nat} {μ : Mem} {L : List (Nat × AV)} {st : List AV} {a : Int} (hY : Y.1.cls = RX4) (hd : decode Y.2.1 pc = .ok (.getfield 9, 3)) (ho : gx G n μ → 0 ≤ a ∧ a < n ∧ SH a = (4, 4)) (w : Wa G Y Z c0 s0 n μ (pc + 3) L (.inr (μ a 0) :: st)) : Wa G Y Z c0 s0 n μ pc L (.inr a :: st) :=
  a_getf (k := 0) cf_4 hd (by decide) rfl (by rw [hY]; exact lf_X4_9) ho (fun _ => w)
theorem gs_X4_9 {G : GT} {Y : MD} {Z : ZT} {c0 s0 n pc : Nat} {μ : Mem} {L : List (Nat × AV)} {st : List AV} {a : Int} (hY : Y.1.cls = RX4) (hd : decode Y.2.1 pc = .ok (.getfield 9, 3)) (hg : gx G = FX) (hs : St a 4 4) (w : Wa G Y Z c0 s0 n μ (pc + 3) L (.inr (1) :: st)) : Wa G Y Z c0 s0 n μ pc L (.inr a :: st) :=
  a_fx (fun f => g_X4_9 hY hd (St_ho hg hs) (by rw [hg] at f; rw [fx_4_0 f hs]; exact w))
theorem p_X4_9 {G : GT} {Y : MD} {Z : ZT} {c0 s0 n pc : Nat} {μ : Mem} {L : List (Nat × AV)} {st : List AV} {a v : Int} (hY : Y.1.cls = RX4) (hi : Y.1.name = "<init>") (hd : decode Y.2.1 pc = .ok (.putfield 9, 3)) (ho : gx G n μ → 0 ≤ a ∧ a < n ∧ SH a = (4, 4)) (hx : gx G n μ → gx G n (up μ a 0 v)) (w : Wa G Y Z c0 s0 n (up μ a 0 v) (pc + 3) L st) : Wa G Y Z c0 s0 n μ pc L (.inr v :: .inr a :: st) :=
  a_putF (k := 0) cf_4 hd (by decide) rfl hY.symm hi rfl (sm_4 0 (by decide)) (by rw [hY]; exact lf_X4_9) ho (fun _ => trivial) hx w
theorem lf_X4_18 : Cond.fieldLink RX4 18 RX4 "draft" "LContactWays$Network;" ∈ gT := gT_mem (i := 161) (by decide +kernel) (by decide +kernel)
theorem g_X4_18 {G : GT} {Y : MD} {Z : ZT} {c0 s0 n pc : Nat} {μ : Mem} {L : List (Nat × AV)} {st : List AV} {a : Int} (hY : Y.1.cls = RX4) (hd : decode Y.2.1 pc = .ok (.getfield 18, 3)) (ho : gx G n μ → 0 ≤ a ∧ a < n ∧ SH a = (4, 4)) (w : Wa G Y Z c0 s0 n μ (pc + 3) L (.inr (μ a 1) :: st)) : Wa G Y Z c0 s0 n μ pc L (.inr a :: st) :=
  a_getf (k := 1) cf_4 hd (by decide) rfl (by rw [hY]; exact lf_X4_18) ho (fun _ => w)
theorem gs_X4_18 {G : GT} {Y : MD} {Z : ZT} {c0 s0 n pc : Nat} {μ : Mem} {L : List (Nat × AV)} {st : List AV} {a : Int} (hY : Y.1.cls = RX4) (hd : decode Y.2.1 pc = .ok (.getfield 18, 3)) (hg : gx G = FX) (hs : St a 4 4) (w : Wa G Y Z c0 s0 n μ (pc + 3) L (.inr (4) :: st)) : Wa G Y Z c0 s0 n μ pc L (.inr a :: st) :=
  a_fx (fun f => g_X4_18 hY hd (St_ho hg hs) (by rw [hg] at f; rw [fx_4_1 f hs]; exact w))
theorem p_X4_18 {G : GT} {Y : MD} {Z : ZT} {c0 s0 n pc : Nat} {μ : Mem} {L : List (Nat × AV)} {st : List AV} {a v : Int} (hY : Y.1.cls = RX4) (hi : Y.1.name = "<init>") (hd : decode Y.2.1 pc = .ok (.putfield 18, 3)) (ho : gx G n μ → 0 ≤ a ∧ a < n ∧ SH a = (4, 4)) (hx : gx G n μ → gx G n (up μ a 1 v)) (w : Wa G Y Z c0 s0 n (up μ a 1 v) (pc + 3) L st) : Wa G Y Z c0 s0 n μ pc L (.inr v :: .inr a :: st) :=
  a_putF (k := 1) cf_4 hd (by decide) rfl hY.symm hi rfl (sm_4 1 (by decide)) (by rw [hY]; exact lf_X4_18) ho (fun _ => trivial) hx w
theorem lf_X4_22 : Cond.fieldLink RX4 22 RX4 "position" "I" ∈ gT := gT_mem (i := 163) (by decide +kernel) (by decide +kernel)
theorem g_X4_22 {G : GT} {Y : MD} {Z : ZT} {c0 s0 n pc : Nat} {μ : Mem} {L : List (Nat × AV)} {st : List AV} {a : Int} (hY : Y.1.cls = RX4) (hd : decode Y.2.1 pc = .ok (.getfield 22, 3)) (ho : gx G n μ → 0 ≤ a ∧ a < n ∧ SH a = (4, 4)) (w : Wa G Y Z c0 s0 n μ (pc + 3) L (.inl (μ a 2) :: st)) : Wa G Y Z c0 s0 n μ pc L (.inr a :: st) :=
  a_getf (k := 2) cf_4 hd (by decide) rfl (by rw [hY]; exact lf_X4_22) ho (fun _ => w)
theorem p_X4_22 {G : GT} {Y : MD} {Z : ZT} {c0 s0 n pc : Nat} {μ : Mem} {L : List (Nat × AV)} {st : List AV} {a v : Int} (hY : Y.1.cls = RX4) (hd : decode Y.2.1 pc = .ok (.putfield 22, 3)) (ho : gx G n μ → 0 ≤ a ∧ a < n ∧ SH a = (4, 4)) (hx : gx G n μ → gx G n (up μ a 2 v)) (w : Wa G Y Z c0 s0 n (up μ a 2 v) (pc + 3) L st) : Wa G Y Z c0 s0 n μ pc L (.inl v :: .inr a :: st) :=
  a_putf (k := 2) cf_4 hd (by decide) rfl rfl (sm_4 2 (by decide)) (by rw [hY]; exact lf_X4_22) ho (fun h => h) hx w
theorem lf_X4_26 : Cond.fieldLink RX4 26 RX4 "fault" "I" ∈ gT := gT_mem (i := 164) (by decide +kernel) (by decide +kernel)
theorem g_X4_26 {G : GT} {Y : MD} {Z : ZT} {c0 s0 n pc : Nat} {μ : Mem} {L : List (Nat × AV)} {st : List AV} {a : Int} (hY : Y.1.cls = RX4) (hd : decode Y.2.1 pc = .ok (.getfield 26, 3)) (ho : gx G n μ → 0 ≤ a ∧ a < n ∧ SH a = (4, 4)) (w : Wa G Y Z c0 s0 n μ (pc + 3) L (.inl (μ a 3) :: st)) : Wa G Y Z c0 s0 n μ pc L (.inr a :: st) :=
  a_getf (k := 3) cf_4 hd (by decide) rfl (by rw [hY]; exact lf_X4_26) ho (fun _ => w)
theorem p_X4_26 {G : GT} {Y : MD} {Z : ZT} {c0 s0 n pc : Nat} {μ : Mem} {L : List (Nat × AV)} {st : List AV} {a v : Int} (hY : Y.1.cls = RX4) (hd : decode Y.2.1 pc = .ok (.putfield 26, 3)) (ho : gx G n μ → 0 ≤ a ∧ a < n ∧ SH a = (4, 4)) (hx : gx G n μ → gx G n (up μ a 3 v)) (w : Wa G Y Z c0 s0 n (up μ a 3 v) (pc + 3) L st) : Wa G Y Z c0 s0 n μ pc L (.inl v :: .inr a :: st) :=
  a_putf (k := 3) cf_4 hd (by decide) rfl rfl (sm_4 3 (by decide)) (by rw [hY]; exact lf_X4_26) ho (fun h => h) hx w
theorem lf_X4_35 : Cond.fieldLinkNest RX4 35 RX9 "length" "I" "ContactWays" ∈ gN := gN_mem (i := 92) (by decide +kernel) (by decide +kernel)
theorem g_X4_35 {G : GT} {Y : MD} {Z : ZT} {c0 s0 n pc : Nat} {μ : Mem} {L : List (Nat × AV)} {st : List AV} {a : Int} (hY : Y.1.cls = RX4) (hd : decode Y.2.1 pc = .ok (.getfield 35, 3)) (ho : gx G n μ → 0 ≤ a ∧ a < n ∧ SH a = (9, 2)) (w : Wa G Y Z c0 s0 n μ (pc + 3) L (.inl (μ a 1) :: st)) : Wa G Y Z c0 s0 n μ pc L (.inr a :: st) :=
  a_getfN (k := 1) cf_9 hd (by decide) rfl (by rw [hY]; exact lf_X4_35) ho (fun _ => w)
theorem lf_X4_69 : Cond.fieldLinkNest RX4 69 RX3 "nodes" "I" "ContactWays" ∈ gN := gN_mem (i := 149) (by decide +kernel) (by decide +kernel)
theorem g_X4_69 {G : GT} {Y : MD} {Z : ZT} {c0 s0 n pc : Nat} {μ : Mem} {L : List (Nat × AV)} {st : List AV} {a : Int} (hY : Y.1.cls = RX4) (hd : decode Y.2.1 pc = .ok (.getfield 69, 3)) (ho : gx G n μ → 0 ≤ a ∧ a < n ∧ SH a = (3, 4)) (w : Wa G Y Z c0 s0 n μ (pc + 3) L (.inl (μ a 3) :: st)) : Wa G Y Z c0 s0 n μ pc L (.inr a :: st) :=
  a_getfN (k := 3) cf_3 hd (by decide) rfl (by rw [hY]; exact lf_X4_69) ho (fun _ => w)
theorem p_X4_69 {G : GT} {Y : MD} {Z : ZT} {c0 s0 n pc : Nat} {μ : Mem} {L : List (Nat × AV)} {st : List AV} {a v : Int} (hY : Y.1.cls = RX4) (hd : decode Y.2.1 pc = .ok (.putfield 69, 3)) (ho : gx G n μ → 0 ≤ a ∧ a < n ∧ SH a = (3, 4)) (hx : gx G n μ → gx G n (up μ a 3 v)) (w : Wa G Y Z c0 s0 n (up μ a 3 v) (pc + 3) L st) : Wa G Y Z c0 s0 n μ pc L (.inl v :: .inr a :: st) :=
  a_putfN (k := 3) cf_3 hd (by decide) rfl rfl (sm_3 3 (by decide)) (by rw [hY]; exact lf_X4_69) ho (fun h => h) hx w
theorem lf_X5_9 : Cond.fieldLink RX5 9 RX5 "router" "LContactWays$Router;" ∈ gT := gT_mem (i := 237) (by decide +kernel) (by decide +kernel)
theorem g_X5_9 {G : GT} {Y : MD} {Z : ZT} {c0 s0 n pc : Nat} {μ : Mem} {L : List (Nat × AV)} {st : List AV} {a : Int} (hY : Y.1.cls = RX5) (hd : decode Y.2.1 pc = .ok (.getfield 9, 3)) (ho : gx G n μ → 0 ≤ a ∧ a < n ∧ SH a = (5, 1)) (w : Wa G Y Z c0 s0 n μ (pc + 3) L (.inr (μ a 0) :: st)) : Wa G Y Z c0 s0 n μ pc L (.inr a :: st) :=
  a_getf (k := 0) cf_5 hd (by decide) rfl (by rw [hY]; exact lf_X5_9) ho (fun _ => w)
theorem gs_X5_9 {G : GT} {Y : MD} {Z : ZT} {c0 s0 n pc : Nat} {μ : Mem} {L : List (Nat × AV)} {st : List AV} {a : Int} (hY : Y.1.cls = RX5) (hd : decode Y.2.1 pc = .ok (.getfield 9, 3)) (hg : gx G = FX) (hs : St a 5 1) (w : Wa G Y Z c0 s0 n μ (pc + 3) L (.inr (10) :: st)) : Wa G Y Z c0 s0 n μ pc L (.inr a :: st) :=
  a_fx (fun f => g_X5_9 hY hd (St_ho hg hs) (by rw [hg] at f; rw [fx_5_0 f hs]; exact w))
theorem p_X5_9 {G : GT} {Y : MD} {Z : ZT} {c0 s0 n pc : Nat} {μ : Mem} {L : List (Nat × AV)} {st : List AV} {a v : Int} (hY : Y.1.cls = RX5) (hi : Y.1.name = "<init>") (hd : decode Y.2.1 pc = .ok (.putfield 9, 3)) (ho : gx G n μ → 0 ≤ a ∧ a < n ∧ SH a = (5, 1)) (hx : gx G n μ → gx G n (up μ a 0 v)) (w : Wa G Y Z c0 s0 n (up μ a 0 v) (pc + 3) L st) : Wa G Y Z c0 s0 n μ pc L (.inr v :: .inr a :: st) :=
  a_putF (k := 0) cf_5 hd (by decide) rfl hY.symm hi rfl (sm_5 0 (by decide)) (by rw [hY]; exact lf_X5_9) ho (fun _ => trivial) hx w
theorem lf_X5_26 : Cond.fieldLinkNest RX5 26 RX7 "bundleCount" "I" "ContactWays" ∈ gN := gN_mem (i := 297) (by decide +kernel) (by decide +kernel)
theorem g_X5_26 {G : GT} {Y : MD} {Z : ZT} {c0 s0 n pc : Nat} {μ : Mem} {L : List (Nat × AV)} {st : List AV} {a : Int} (hY : Y.1.cls = RX5) (hd : decode Y.2.1 pc = .ok (.getfield 26, 3)) (ho : gx G n μ → 0 ≤ a ∧ a < n ∧ SH a = (7, 5)) (w : Wa G Y Z c0 s0 n μ (pc + 3) L (.inl (μ a 2) :: st)) : Wa G Y Z c0 s0 n μ pc L (.inr a :: st) :=
  a_getfN (k := 2) cf_7 hd (by decide) rfl (by rw [hY]; exact lf_X5_26) ho (fun _ => w)
theorem lf_X5_36 : Cond.fieldLinkNest RX5 36 RX0 "priority" "I" "ContactWays" ∈ gN := gN_mem (i := 269) (by decide +kernel) (by decide +kernel)
theorem g_X5_36 {G : GT} {Y : MD} {Z : ZT} {c0 s0 n pc : Nat} {μ : Mem} {L : List (Nat × AV)} {st : List AV} {a : Int} (hY : Y.1.cls = RX5) (hd : decode Y.2.1 pc = .ok (.getfield 36, 3)) (ho : gx G n μ → 0 ≤ a ∧ a < n ∧ SH a = (0, 9)) (w : Wa G Y Z c0 s0 n μ (pc + 3) L (.inl (μ a 6) :: st)) : Wa G Y Z c0 s0 n μ pc L (.inr a :: st) :=
  a_getfN (k := 6) cf_0 hd (by decide) rfl (by rw [hY]; exact lf_X5_36) ho (fun _ => w)
theorem lf_X5_41 : Cond.fieldLinkNest RX5 41 RX7 "now" "I" "ContactWays" ∈ gN := gN_mem (i := 301) (by decide +kernel) (by decide +kernel)
theorem g_X5_41 {G : GT} {Y : MD} {Z : ZT} {c0 s0 n pc : Nat} {μ : Mem} {L : List (Nat × AV)} {st : List AV} {a : Int} (hY : Y.1.cls = RX5) (hd : decode Y.2.1 pc = .ok (.getfield 41, 3)) (ho : gx G n μ → 0 ≤ a ∧ a < n ∧ SH a = (7, 5)) (w : Wa G Y Z c0 s0 n μ (pc + 3) L (.inl (μ a 3) :: st)) : Wa G Y Z c0 s0 n μ pc L (.inr a :: st) :=
  a_getfN (k := 3) cf_7 hd (by decide) rfl (by rw [hY]; exact lf_X5_41) ho (fun _ => w)
theorem lf_X5_52 : Cond.fieldLinkNest RX5 52 RX0 "goal" "I" "ContactWays" ∈ gN := gN_mem (i := 262) (by decide +kernel) (by decide +kernel)
theorem g_X5_52 {G : GT} {Y : MD} {Z : ZT} {c0 s0 n pc : Nat} {μ : Mem} {L : List (Nat × AV)} {st : List AV} {a : Int} (hY : Y.1.cls = RX5) (hd : decode Y.2.1 pc = .ok (.getfield 52, 3)) (ho : gx G n μ → 0 ≤ a ∧ a < n ∧ SH a = (0, 9)) (w : Wa G Y Z c0 s0 n μ (pc + 3) L (.inl (μ a 3) :: st)) : Wa G Y Z c0 s0 n μ pc L (.inr a :: st) :=
  a_getfN (k := 3) cf_0 hd (by decide) rfl (by rw [hY]; exact lf_X5_52) ho (fun _ => w)
theorem lf_X5_55 : Cond.fieldLinkNest RX5 55 RX0 "hops" "LContactWays$Table;" "ContactWays" ∈ gN := gN_mem (i := 258) (by decide +kernel) (by decide +kernel)
theorem g_X5_55 {G : GT} {Y : MD} {Z : ZT} {c0 s0 n pc : Nat} {μ : Mem} {L : List (Nat × AV)} {st : List AV} {a : Int} (hY : Y.1.cls = RX5) (hd : decode Y.2.1 pc = .ok (.getfield 55, 3)) (ho : gx G n μ → 0 ≤ a ∧ a < n ∧ SH a = (0, 9)) (w : Wa G Y Z c0 s0 n μ (pc + 3) L (.inr (μ a 1) :: st)) : Wa G Y Z c0 s0 n μ pc L (.inr a :: st) :=
  a_getfN (k := 1) cf_0 hd (by decide) rfl (by rw [hY]; exact lf_X5_55) ho (fun _ => w)
theorem gs_X5_55 {G : GT} {Y : MD} {Z : ZT} {c0 s0 n pc : Nat} {μ : Mem} {L : List (Nat × AV)} {st : List AV} {a : Int} (hY : Y.1.cls = RX5) (hd : decode Y.2.1 pc = .ok (.getfield 55, 3)) (hg : gx G = FX) (hs : St a 0 9) (w : Wa G Y Z c0 s0 n μ (pc + 3) L (.inr (a + 1) :: st)) : Wa G Y Z c0 s0 n μ pc L (.inr a :: st) :=
  a_fx (fun f => g_X5_55 hY hd (St_ho hg hs) (by rw [hg] at f; rw [fx_0_1 f hs]; exact w))
theorem lf_X5_59 : Cond.fieldLinkNest RX5 59 RX8 "rows" "I" "ContactWays" ∈ gN := gN_mem (i := 195) (by decide +kernel) (by decide +kernel)
theorem g_X5_59 {G : GT} {Y : MD} {Z : ZT} {c0 s0 n pc : Nat} {μ : Mem} {L : List (Nat × AV)} {st : List AV} {a : Int} (hY : Y.1.cls = RX5) (hd : decode Y.2.1 pc = .ok (.getfield 59, 3)) (ho : gx G n μ → 0 ≤ a ∧ a < n ∧ SH a = (8, 3)) (w : Wa G Y Z c0 s0 n μ (pc + 3) L (.inl (μ a 2) :: st)) : Wa G Y Z c0 s0 n μ pc L (.inr a :: st) :=
  a_getfN (k := 2) cf_8 hd (by decide) rfl (by rw [hY]; exact lf_X5_59) ho (fun _ => w)
theorem lf_X5_73 : Cond.fieldLinkNest RX5 73 RX0 "size" "I" "ContactWays" ∈ gN := gN_mem (i := 264) (by decide +kernel) (by decide +kernel)
theorem g_X5_73 {G : GT} {Y : MD} {Z : ZT} {c0 s0 n pc : Nat} {μ : Mem} {L : List (Nat × AV)} {st : List AV} {a : Int} (hY : Y.1.cls = RX5) (hd : decode Y.2.1 pc = .ok (.getfield 73, 3)) (ho : gx G n μ → 0 ≤ a ∧ a < n ∧ SH a = (0, 9)) (w : Wa G Y Z c0 s0 n μ (pc + 3) L (.inl (μ a 4) :: st)) : Wa G Y Z c0 s0 n μ pc L (.inr a :: st) :=
  a_getfN (k := 4) cf_0 hd (by decide) rfl (by rw [hY]; exact lf_X5_73) ho (fun _ => w)
theorem lf_X5_80 : Cond.fieldLinkNest RX5 80 RX0 "deadline" "I" "ContactWays" ∈ gN := gN_mem (i := 266) (by decide +kernel) (by decide +kernel)
theorem g_X5_80 {G : GT} {Y : MD} {Z : ZT} {c0 s0 n pc : Nat} {μ : Mem} {L : List (Nat × AV)} {st : List AV} {a : Int} (hY : Y.1.cls = RX5) (hd : decode Y.2.1 pc = .ok (.getfield 80, 3)) (ho : gx G n μ → 0 ≤ a ∧ a < n ∧ SH a = (0, 9)) (w : Wa G Y Z c0 s0 n μ (pc + 3) L (.inl (μ a 5) :: st)) : Wa G Y Z c0 s0 n μ pc L (.inr a :: st) :=
  a_getfN (k := 5) cf_0 hd (by decide) rfl (by rw [hY]; exact lf_X5_80) ho (fun _ => w)
theorem lf_X5_83 : Cond.fieldLinkNest RX5 83 RX0 "reason" "I" "ContactWays" ∈ gN := gN_mem (i := 272) (by decide +kernel) (by decide +kernel)
theorem p_X5_83 {G : GT} {Y : MD} {Z : ZT} {c0 s0 n pc : Nat} {μ : Mem} {L : List (Nat × AV)} {st : List AV} {a v : Int} (hY : Y.1.cls = RX5) (hd : decode Y.2.1 pc = .ok (.putfield 83, 3)) (ho : gx G n μ → 0 ≤ a ∧ a < n ∧ SH a = (0, 9)) (hx : gx G n μ → gx G n (up μ a 8 v)) (w : Wa G Y Z c0 s0 n (up μ a 8 v) (pc + 3) L st) : Wa G Y Z c0 s0 n μ pc L (.inl v :: .inr a :: st) :=
  a_putfN (k := 8) cf_0 hd (by decide) rfl rfl (sm_0 8 (by decide)) (by rw [hY]; exact lf_X5_83) ho (fun h => h) hx w
theorem lf_X5_86 : Cond.fieldLinkNest RX5 86 RX6 "best" "LContactWays$Table;" "ContactWays" ∈ gN := gN_mem (i := 209) (by decide +kernel) (by decide +kernel)
theorem g_X5_86 {G : GT} {Y : MD} {Z : ZT} {c0 s0 n pc : Nat} {μ : Mem} {L : List (Nat × AV)} {st : List AV} {a : Int} (hY : Y.1.cls = RX5) (hd : decode Y.2.1 pc = .ok (.getfield 86, 3)) (ho : gx G n μ → 0 ≤ a ∧ a < n ∧ SH a = (6, 8)) (w : Wa G Y Z c0 s0 n μ (pc + 3) L (.inr (μ a 3) :: st)) : Wa G Y Z c0 s0 n μ pc L (.inr a :: st) :=
  a_getfN (k := 3) cf_6 hd (by decide) rfl (by rw [hY]; exact lf_X5_86) ho (fun _ => w)
theorem gs_X5_86 {G : GT} {Y : MD} {Z : ZT} {c0 s0 n pc : Nat} {μ : Mem} {L : List (Nat × AV)} {st : List AV} {a : Int} (hY : Y.1.cls = RX5) (hd : decode Y.2.1 pc = .ok (.getfield 86, 3)) (hg : gx G = FX) (hs : St a 6 8) (w : Wa G Y Z c0 s0 n μ (pc + 3) L (.inr (15) :: st)) : Wa G Y Z c0 s0 n μ pc L (.inr a :: st) :=
  a_fx (fun f => g_X5_86 hY hd (St_ho hg hs) (by rw [hg] at f; rw [fx_6_3 f hs]; exact w))
theorem lf_X6_9 : Cond.fieldLink RX6 9 RX6 "network" "LContactWays$Network;" ∈ gT := gT_mem (i := 205) (by decide +kernel) (by decide +kernel)
theorem g_X6_9 {G : GT} {Y : MD} {Z : ZT} {c0 s0 n pc : Nat} {μ : Mem} {L : List (Nat × AV)} {st : List AV} {a : Int} (hY : Y.1.cls = RX6) (hd : decode Y.2.1 pc = .ok (.getfield 9, 3)) (ho : gx G n μ → 0 ≤ a ∧ a < n ∧ SH a = (6, 8)) (w : Wa G Y Z c0 s0 n μ (pc + 3) L (.inr (μ a 0) :: st)) : Wa G Y Z c0 s0 n μ pc L (.inr a :: st) :=
  a_getf (k := 0) cf_6 hd (by decide) rfl (by rw [hY]; exact lf_X6_9) ho (fun _ => w)
theorem gs_X6_9 {G : GT} {Y : MD} {Z : ZT} {c0 s0 n pc : Nat} {μ : Mem} {L : List (Nat × AV)} {st : List AV} {a : Int} (hY : Y.1.cls = RX6) (hd : decode Y.2.1 pc = .ok (.getfield 9, 3)) (hg : gx G = FX) (hs : St a 6 8) (w : Wa G Y Z c0 s0 n μ (pc + 3) L (.inr (7) :: st)) : Wa G Y Z c0 s0 n μ pc L (.inr a :: st) :=
  a_fx (fun f => g_X6_9 hY hd (St_ho hg hs) (by rw [hg] at f; rw [fx_6_0 f hs]; exact w))
theorem p_X6_9 {G : GT} {Y : MD} {Z : ZT} {c0 s0 n pc : Nat} {μ : Mem} {L : List (Nat × AV)} {st : List AV} {a v : Int} (hY : Y.1.cls = RX6) (hi : Y.1.name = "<init>") (hd : decode Y.2.1 pc = .ok (.putfield 9, 3)) (ho : gx G n μ → 0 ≤ a ∧ a < n ∧ SH a = (6, 8)) (hx : gx G n μ → gx G n (up μ a 0 v)) (w : Wa G Y Z c0 s0 n (up μ a 0 v) (pc + 3) L st) : Wa G Y Z c0 s0 n μ pc L (.inr v :: .inr a :: st) :=
  a_putF (k := 0) cf_6 hd (by decide) rfl hY.symm hi rfl (sm_6 0 (by decide)) (by rw [hY]; exact lf_X6_9) ho (fun _ => trivial) hx w
theorem lf_X6_20 : Cond.fieldLink RX6 20 RX6 "freeRuns" "LContactWays$Table;" ∈ gT := gT_mem (i := 206) (by decide +kernel) (by decide +kernel)
theorem g_X6_20 {G : GT} {Y : MD} {Z : ZT} {c0 s0 n pc : Nat} {μ : Mem} {L : List (Nat × AV)} {st : List AV} {a : Int} (hY : Y.1.cls = RX6) (hd : decode Y.2.1 pc = .ok (.getfield 20, 3)) (ho : gx G n μ → 0 ≤ a ∧ a < n ∧ SH a = (6, 8)) (w : Wa G Y Z c0 s0 n μ (pc + 3) L (.inr (μ a 1) :: st)) : Wa G Y Z c0 s0 n μ pc L (.inr a :: st) :=
  a_getf (k := 1) cf_6 hd (by decide) rfl (by rw [hY]; exact lf_X6_20) ho (fun _ => w)
theorem gs_X6_20 {G : GT} {Y : MD} {Z : ZT} {c0 s0 n pc : Nat} {μ : Mem} {L : List (Nat × AV)} {st : List AV} {a : Int} (hY : Y.1.cls = RX6) (hd : decode Y.2.1 pc = .ok (.getfield 20, 3)) (hg : gx G = FX) (hs : St a 6 8) (w : Wa G Y Z c0 s0 n μ (pc + 3) L (.inr (11) :: st)) : Wa G Y Z c0 s0 n μ pc L (.inr a :: st) :=
  a_fx (fun f => g_X6_20 hY hd (St_ho hg hs) (by rw [hg] at f; rw [fx_6_1 f hs]; exact w))
theorem p_X6_20 {G : GT} {Y : MD} {Z : ZT} {c0 s0 n pc : Nat} {μ : Mem} {L : List (Nat × AV)} {st : List AV} {a v : Int} (hY : Y.1.cls = RX6) (hi : Y.1.name = "<init>") (hd : decode Y.2.1 pc = .ok (.putfield 20, 3)) (ho : gx G n μ → 0 ≤ a ∧ a < n ∧ SH a = (6, 8)) (hx : gx G n μ → gx G n (up μ a 1 v)) (w : Wa G Y Z c0 s0 n (up μ a 1 v) (pc + 3) L st) : Wa G Y Z c0 s0 n μ pc L (.inr v :: .inr a :: st) :=
  a_putF (k := 1) cf_6 hd (by decide) rfl hY.symm hi rfl (sm_6 1 (by decide)) (by rw [hY]; exact lf_X6_20) ho (fun _ => trivial) hx w
theorem lf_X6_24 : Cond.fieldLink RX6 24 RX6 "trail" "LContactWays$Table;" ∈ gT := gT_mem (i := 207) (by decide +kernel) (by decide +kernel)
theorem g_X6_24 {G : GT} {Y : MD} {Z : ZT} {c0 s0 n pc : Nat} {μ : Mem} {L : List (Nat × AV)} {st : List AV} {a : Int} (hY : Y.1.cls = RX6) (hd : decode Y.2.1 pc = .ok (.getfield 24, 3)) (ho : gx G n μ → 0 ≤ a ∧ a < n ∧ SH a = (6, 8)) (w : Wa G Y Z c0 s0 n μ (pc + 3) L (.inr (μ a 2) :: st)) : Wa G Y Z c0 s0 n μ pc L (.inr a :: st) :=
  a_getf (k := 2) cf_6 hd (by decide) rfl (by rw [hY]; exact lf_X6_24) ho (fun _ => w)
theorem gs_X6_24 {G : GT} {Y : MD} {Z : ZT} {c0 s0 n pc : Nat} {μ : Mem} {L : List (Nat × AV)} {st : List AV} {a : Int} (hY : Y.1.cls = RX6) (hd : decode Y.2.1 pc = .ok (.getfield 24, 3)) (hg : gx G = FX) (hs : St a 6 8) (w : Wa G Y Z c0 s0 n μ (pc + 3) L (.inr (13) :: st)) : Wa G Y Z c0 s0 n μ pc L (.inr a :: st) :=
  a_fx (fun f => g_X6_24 hY hd (St_ho hg hs) (by rw [hg] at f; rw [fx_6_2 f hs]; exact w))
theorem p_X6_24 {G : GT} {Y : MD} {Z : ZT} {c0 s0 n pc : Nat} {μ : Mem} {L : List (Nat × AV)} {st : List AV} {a v : Int} (hY : Y.1.cls = RX6) (hi : Y.1.name = "<init>") (hd : decode Y.2.1 pc = .ok (.putfield 24, 3)) (ho : gx G n μ → 0 ≤ a ∧ a < n ∧ SH a = (6, 8)) (hx : gx G n μ → gx G n (up μ a 2 v)) (w : Wa G Y Z c0 s0 n (up μ a 2 v) (pc + 3) L st) : Wa G Y Z c0 s0 n μ pc L (.inr v :: .inr a :: st) :=
  a_putF (k := 2) cf_6 hd (by decide) rfl hY.symm hi rfl (sm_6 2 (by decide)) (by rw [hY]; exact lf_X6_24) ho (fun _ => trivial) hx w
theorem lf_X6_27 : Cond.fieldLink RX6 27 RX6 "best" "LContactWays$Table;" ∈ gT := gT_mem (i := 208) (by decide +kernel) (by decide +kernel)
theorem g_X6_27 {G : GT} {Y : MD} {Z : ZT} {c0 s0 n pc : Nat} {μ : Mem} {L : List (Nat × AV)} {st : List AV} {a : Int} (hY : Y.1.cls = RX6) (hd : decode Y.2.1 pc = .ok (.getfield 27, 3)) (ho : gx G n μ → 0 ≤ a ∧ a < n ∧ SH a = (6, 8)) (w : Wa G Y Z c0 s0 n μ (pc + 3) L (.inr (μ a 3) :: st)) : Wa G Y Z c0 s0 n μ pc L (.inr a :: st) :=
  a_getf (k := 3) cf_6 hd (by decide) rfl (by rw [hY]; exact lf_X6_27) ho (fun _ => w)
theorem gs_X6_27 {G : GT} {Y : MD} {Z : ZT} {c0 s0 n pc : Nat} {μ : Mem} {L : List (Nat × AV)} {st : List AV} {a : Int} (hY : Y.1.cls = RX6) (hd : decode Y.2.1 pc = .ok (.getfield 27, 3)) (hg : gx G = FX) (hs : St a 6 8) (w : Wa G Y Z c0 s0 n μ (pc + 3) L (.inr (15) :: st)) : Wa G Y Z c0 s0 n μ pc L (.inr a :: st) :=
  a_fx (fun f => g_X6_27 hY hd (St_ho hg hs) (by rw [hg] at f; rw [fx_6_3 f hs]; exact w))
theorem p_X6_27 {G : GT} {Y : MD} {Z : ZT} {c0 s0 n pc : Nat} {μ : Mem} {L : List (Nat × AV)} {st : List AV} {a v : Int} (hY : Y.1.cls = RX6) (hi : Y.1.name = "<init>") (hd : decode Y.2.1 pc = .ok (.putfield 27, 3)) (ho : gx G n μ → 0 ≤ a ∧ a < n ∧ SH a = (6, 8)) (hx : gx G n μ → gx G n (up μ a 3 v)) (w : Wa G Y Z c0 s0 n (up μ a 3 v) (pc + 3) L st) : Wa G Y Z c0 s0 n μ pc L (.inr v :: .inr a :: st) :=
  a_putF (k := 3) cf_6 hd (by decide) rfl hY.symm hi rfl (sm_6 3 (by decide)) (by rw [hY]; exact lf_X6_27) ho (fun _ => trivial) hx w
theorem lf_X6_30 : Cond.fieldLink RX6 30 RX6 "bestThere" "I" ∈ gT := gT_mem (i := 210) (by decide +kernel) (by decide +kernel)
theorem g_X6_30 {G : GT} {Y : MD} {Z : ZT} {c0 s0 n pc : Nat} {μ : Mem} {L : List (Nat × AV)} {st : List AV} {a : Int} (hY : Y.1.cls = RX6) (hd : decode Y.2.1 pc = .ok (.getfield 30, 3)) (ho : gx G n μ → 0 ≤ a ∧ a < n ∧ SH a = (6, 8)) (w : Wa G Y Z c0 s0 n μ (pc + 3) L (.inl (μ a 4) :: st)) : Wa G Y Z c0 s0 n μ pc L (.inr a :: st) :=
  a_getf (k := 4) cf_6 hd (by decide) rfl (by rw [hY]; exact lf_X6_30) ho (fun _ => w)
theorem p_X6_30 {G : GT} {Y : MD} {Z : ZT} {c0 s0 n pc : Nat} {μ : Mem} {L : List (Nat × AV)} {st : List AV} {a v : Int} (hY : Y.1.cls = RX6) (hd : decode Y.2.1 pc = .ok (.putfield 30, 3)) (ho : gx G n μ → 0 ≤ a ∧ a < n ∧ SH a = (6, 8)) (hx : gx G n μ → gx G n (up μ a 4 v)) (w : Wa G Y Z c0 s0 n (up μ a 4 v) (pc + 3) L st) : Wa G Y Z c0 s0 n μ pc L (.inl v :: .inr a :: st) :=
  a_putf (k := 4) cf_6 hd (by decide) rfl rfl (sm_6 4 (by decide)) (by rw [hY]; exact lf_X6_30) ho (fun h => h) hx w
theorem lf_X6_38 : Cond.fieldLinkNest RX6 38 RX7 "bundleCount" "I" "ContactWays" ∈ gN := gN_mem (i := 296) (by decide +kernel) (by decide +kernel)
theorem g_X6_38 {G : GT} {Y : MD} {Z : ZT} {c0 s0 n pc : Nat} {μ : Mem} {L : List (Nat × AV)} {st : List AV} {a : Int} (hY : Y.1.cls = RX6) (hd : decode Y.2.1 pc = .ok (.getfield 38, 3)) (ho : gx G n μ → 0 ≤ a ∧ a < n ∧ SH a = (7, 5)) (w : Wa G Y Z c0 s0 n μ (pc + 3) L (.inl (μ a 2) :: st)) : Wa G Y Z c0 s0 n μ pc L (.inr a :: st) :=
  a_getfN (k := 2) cf_7 hd (by decide) rfl (by rw [hY]; exact lf_X6_38) ho (fun _ => w)
theorem lf_X6_47 : Cond.fieldLinkNest RX6 47 RX0 "hops" "LContactWays$Table;" "ContactWays" ∈ gN := gN_mem (i := 257) (by decide +kernel) (by decide +kernel)
theorem g_X6_47 {G : GT} {Y : MD} {Z : ZT} {c0 s0 n pc : Nat} {μ : Mem} {L : List (Nat × AV)} {st : List AV} {a : Int} (hY : Y.1.cls = RX6) (hd : decode Y.2.1 pc = .ok (.getfield 47, 3)) (ho : gx G n μ → 0 ≤ a ∧ a < n ∧ SH a = (0, 9)) (w : Wa G Y Z c0 s0 n μ (pc + 3) L (.inr (μ a 1) :: st)) : Wa G Y Z c0 s0 n μ pc L (.inr a :: st) :=
  a_getfN (k := 1) cf_0 hd (by decide) rfl (by rw [hY]; exact lf_X6_47) ho (fun _ => w)
theorem gs_X6_47 {G : GT} {Y : MD} {Z : ZT} {c0 s0 n pc : Nat} {μ : Mem} {L : List (Nat × AV)} {st : List AV} {a : Int} (hY : Y.1.cls = RX6) (hd : decode Y.2.1 pc = .ok (.getfield 47, 3)) (hg : gx G = FX) (hs : St a 0 9) (w : Wa G Y Z c0 s0 n μ (pc + 3) L (.inr (a + 1) :: st)) : Wa G Y Z c0 s0 n μ pc L (.inr a :: st) :=
  a_fx (fun f => g_X6_47 hY hd (St_ho hg hs) (by rw [hg] at f; rw [fx_0_1 f hs]; exact w))
theorem lf_X6_52 : Cond.fieldLinkNest RX6 52 RX8 "rows" "I" "ContactWays" ∈ gN := gN_mem (i := 194) (by decide +kernel) (by decide +kernel)
theorem g_X6_52 {G : GT} {Y : MD} {Z : ZT} {c0 s0 n pc : Nat} {μ : Mem} {L : List (Nat × AV)} {st : List AV} {a : Int} (hY : Y.1.cls = RX6) (hd : decode Y.2.1 pc = .ok (.getfield 52, 3)) (ho : gx G n μ → 0 ≤ a ∧ a < n ∧ SH a = (8, 3)) (w : Wa G Y Z c0 s0 n μ (pc + 3) L (.inl (μ a 2) :: st)) : Wa G Y Z c0 s0 n μ pc L (.inr a :: st) :=
  a_getfN (k := 2) cf_8 hd (by decide) rfl (by rw [hY]; exact lf_X6_52) ho (fun _ => w)
theorem lf_X6_59 : Cond.fieldLinkNest RX6 59 RX7 "now" "I" "ContactWays" ∈ gN := gN_mem (i := 300) (by decide +kernel) (by decide +kernel)
theorem g_X6_59 {G : GT} {Y : MD} {Z : ZT} {c0 s0 n pc : Nat} {μ : Mem} {L : List (Nat × AV)} {st : List AV} {a : Int} (hY : Y.1.cls = RX6) (hd : decode Y.2.1 pc = .ok (.getfield 59, 3)) (ho : gx G n μ → 0 ≤ a ∧ a < n ∧ SH a = (7, 5)) (w : Wa G Y Z c0 s0 n μ (pc + 3) L (.inl (μ a 3) :: st)) : Wa G Y Z c0 s0 n μ pc L (.inr a :: st) :=
  a_getfN (k := 3) cf_7 hd (by decide) rfl (by rw [hY]; exact lf_X6_59) ho (fun _ => w)
theorem lf_X6_62 : Cond.fieldLinkNest RX6 62 RX0 "priority" "I" "ContactWays" ∈ gN := gN_mem (i := 268) (by decide +kernel) (by decide +kernel)
theorem g_X6_62 {G : GT} {Y : MD} {Z : ZT} {c0 s0 n pc : Nat} {μ : Mem} {L : List (Nat × AV)} {st : List AV} {a : Int} (hY : Y.1.cls = RX6) (hd : decode Y.2.1 pc = .ok (.getfield 62, 3)) (ho : gx G n μ → 0 ≤ a ∧ a < n ∧ SH a = (0, 9)) (w : Wa G Y Z c0 s0 n μ (pc + 3) L (.inl (μ a 6) :: st)) : Wa G Y Z c0 s0 n μ pc L (.inr a :: st) :=
  a_getfN (k := 6) cf_0 hd (by decide) rfl (by rw [hY]; exact lf_X6_62) ho (fun _ => w)
theorem lf_X6_76 : Cond.fieldLinkNest RX6 76 RX3 "contactCount" "I" "ContactWays" ∈ gN := gN_mem (i := 146) (by decide +kernel) (by decide +kernel)
theorem g_X6_76 {G : GT} {Y : MD} {Z : ZT} {c0 s0 n pc : Nat} {μ : Mem} {L : List (Nat × AV)} {st : List AV} {a : Int} (hY : Y.1.cls = RX6) (hd : decode Y.2.1 pc = .ok (.getfield 76, 3)) (ho : gx G n μ → 0 ≤ a ∧ a < n ∧ SH a = (3, 4)) (w : Wa G Y Z c0 s0 n μ (pc + 3) L (.inl (μ a 2) :: st)) : Wa G Y Z c0 s0 n μ pc L (.inr a :: st) :=
  a_getfN (k := 2) cf_3 hd (by decide) rfl (by rw [hY]; exact lf_X6_76) ho (fun _ => w)
theorem lf_X6_85 : Cond.fieldLinkNest RX6 85 RX1 "start" "I" "ContactWays" ∈ gN := gN_mem (i := 123) (by decide +kernel) (by decide +kernel)
theorem g_X6_85 {G : GT} {Y : MD} {Z : ZT} {c0 s0 n pc : Nat} {μ : Mem} {L : List (Nat × AV)} {st : List AV} {a : Int} (hY : Y.1.cls = RX6) (hd : decode Y.2.1 pc = .ok (.getfield 85, 3)) (ho : gx G n μ → 0 ≤ a ∧ a < n ∧ SH a = (1, 6)) (w : Wa G Y Z c0 s0 n μ (pc + 3) L (.inl (μ a 2) :: st)) : Wa G Y Z c0 s0 n μ pc L (.inr a :: st) :=
  a_getfN (k := 2) cf_1 hd (by decide) rfl (by rw [hY]; exact lf_X6_85) ho (fun _ => w)
theorem lf_X6_99 : Cond.fieldLinkNest RX6 99 RX1 "end" "I" "ContactWays" ∈ gN := gN_mem (i := 125) (by decide +kernel) (by decide +kernel)
theorem g_X6_99 {G : GT} {Y : MD} {Z : ZT} {c0 s0 n pc : Nat} {μ : Mem} {L : List (Nat × AV)} {st : List AV} {a : Int} (hY : Y.1.cls = RX6) (hd : decode Y.2.1 pc = .ok (.getfield 99, 3)) (ho : gx G n μ → 0 ≤ a ∧ a < n ∧ SH a = (1, 6)) (w : Wa G Y Z c0 s0 n μ (pc + 3) L (.inl (μ a 3) :: st)) : Wa G Y Z c0 s0 n μ pc L (.inr a :: st) :=
  a_getfN (k := 3) cf_1 hd (by decide) rfl (by rw [hY]; exact lf_X6_99) ho (fun _ => w)
theorem lf_X6_110 : Cond.fieldLink RX6 110 RX6 "goal" "I" ∈ gT := gT_mem (i := 211) (by decide +kernel) (by decide +kernel)
theorem g_X6_110 {G : GT} {Y : MD} {Z : ZT} {c0 s0 n pc : Nat} {μ : Mem} {L : List (Nat × AV)} {st : List AV} {a : Int} (hY : Y.1.cls = RX6) (hd : decode Y.2.1 pc = .ok (.getfield 110, 3)) (ho : gx G n μ → 0 ≤ a ∧ a < n ∧ SH a = (6, 8)) (w : Wa G Y Z c0 s0 n μ (pc + 3) L (.inl (μ a 5) :: st)) : Wa G Y Z c0 s0 n μ pc L (.inr a :: st) :=
  a_getf (k := 5) cf_6 hd (by decide) rfl (by rw [hY]; exact lf_X6_110) ho (fun _ => w)
theorem p_X6_110 {G : GT} {Y : MD} {Z : ZT} {c0 s0 n pc : Nat} {μ : Mem} {L : List (Nat × AV)} {st : List AV} {a v : Int} (hY : Y.1.cls = RX6) (hd : decode Y.2.1 pc = .ok (.putfield 110, 3)) (ho : gx G n μ → 0 ≤ a ∧ a < n ∧ SH a = (6, 8)) (hx : gx G n μ → gx G n (up μ a 5 v)) (w : Wa G Y Z c0 s0 n (up μ a 5 v) (pc + 3) L st) : Wa G Y Z c0 s0 n μ pc L (.inl v :: .inr a :: st) :=
  a_putf (k := 5) cf_6 hd (by decide) rfl rfl (sm_6 5 (by decide)) (by rw [hY]; exact lf_X6_110) ho (fun h => h) hx w
theorem lf_X6_113 : Cond.fieldLink RX6 113 RX6 "size" "I" ∈ gT := gT_mem (i := 212) (by decide +kernel) (by decide +kernel)
theorem g_X6_113 {G : GT} {Y : MD} {Z : ZT} {c0 s0 n pc : Nat} {μ : Mem} {L : List (Nat × AV)} {st : List AV} {a : Int} (hY : Y.1.cls = RX6) (hd : decode Y.2.1 pc = .ok (.getfield 113, 3)) (ho : gx G n μ → 0 ≤ a ∧ a < n ∧ SH a = (6, 8)) (w : Wa G Y Z c0 s0 n μ (pc + 3) L (.inl (μ a 6) :: st)) : Wa G Y Z c0 s0 n μ pc L (.inr a :: st) :=
  a_getf (k := 6) cf_6 hd (by decide) rfl (by rw [hY]; exact lf_X6_113) ho (fun _ => w)
theorem p_X6_113 {G : GT} {Y : MD} {Z : ZT} {c0 s0 n pc : Nat} {μ : Mem} {L : List (Nat × AV)} {st : List AV} {a v : Int} (hY : Y.1.cls = RX6) (hd : decode Y.2.1 pc = .ok (.putfield 113, 3)) (ho : gx G n μ → 0 ≤ a ∧ a < n ∧ SH a = (6, 8)) (hx : gx G n μ → gx G n (up μ a 6 v)) (w : Wa G Y Z c0 s0 n (up μ a 6 v) (pc + 3) L st) : Wa G Y Z c0 s0 n μ pc L (.inl v :: .inr a :: st) :=
  a_putf (k := 6) cf_6 hd (by decide) rfl rfl (sm_6 6 (by decide)) (by rw [hY]; exact lf_X6_113) ho (fun h => h) hx w
theorem lf_X6_116 : Cond.fieldLink RX6 116 RX6 "without" "I" ∈ gT := gT_mem (i := 213) (by decide +kernel) (by decide +kernel)
theorem g_X6_116 {G : GT} {Y : MD} {Z : ZT} {c0 s0 n pc : Nat} {μ : Mem} {L : List (Nat × AV)} {st : List AV} {a : Int} (hY : Y.1.cls = RX6) (hd : decode Y.2.1 pc = .ok (.getfield 116, 3)) (ho : gx G n μ → 0 ≤ a ∧ a < n ∧ SH a = (6, 8)) (w : Wa G Y Z c0 s0 n μ (pc + 3) L (.inl (μ a 7) :: st)) : Wa G Y Z c0 s0 n μ pc L (.inr a :: st) :=
  a_getf (k := 7) cf_6 hd (by decide) rfl (by rw [hY]; exact lf_X6_116) ho (fun _ => w)
theorem p_X6_116 {G : GT} {Y : MD} {Z : ZT} {c0 s0 n pc : Nat} {μ : Mem} {L : List (Nat × AV)} {st : List AV} {a v : Int} (hY : Y.1.cls = RX6) (hd : decode Y.2.1 pc = .ok (.putfield 116, 3)) (ho : gx G n μ → 0 ≤ a ∧ a < n ∧ SH a = (6, 8)) (hx : gx G n μ → gx G n (up μ a 7 v)) (w : Wa G Y Z c0 s0 n (up μ a 7 v) (pc + 3) L st) : Wa G Y Z c0 s0 n μ pc L (.inl v :: .inr a :: st) :=
  a_putf (k := 7) cf_6 hd (by decide) rfl rfl (sm_6 7 (by decide)) (by rw [hY]; exact lf_X6_116) ho (fun h => h) hx w
theorem lf_X6_123 : Cond.fieldLinkNest RX6 123 RX1 "from" "I" "ContactWays" ∈ gN := gN_mem (i := 118) (by decide +kernel) (by decide +kernel)
theorem g_X6_123 {G : GT} {Y : MD} {Z : ZT} {c0 s0 n pc : Nat} {μ : Mem} {L : List (Nat × AV)} {st : List AV} {a : Int} (hY : Y.1.cls = RX6) (hd : decode Y.2.1 pc = .ok (.getfield 123, 3)) (ho : gx G n μ → 0 ≤ a ∧ a < n ∧ SH a = (1, 6)) (w : Wa G Y Z c0 s0 n μ (pc + 3) L (.inl (μ a 0) :: st)) : Wa G Y Z c0 s0 n μ pc L (.inr a :: st) :=
  a_getfN (k := 0) cf_1 hd (by decide) rfl (by rw [hY]; exact lf_X6_123) ho (fun _ => w)
theorem lf_X6_126 : Cond.fieldLinkNest RX6 126 RX1 "to" "I" "ContactWays" ∈ gN := gN_mem (i := 121) (by decide +kernel) (by decide +kernel)
theorem g_X6_126 {G : GT} {Y : MD} {Z : ZT} {c0 s0 n pc : Nat} {μ : Mem} {L : List (Nat × AV)} {st : List AV} {a : Int} (hY : Y.1.cls = RX6) (hd : decode Y.2.1 pc = .ok (.getfield 126, 3)) (ho : gx G n μ → 0 ≤ a ∧ a < n ∧ SH a = (1, 6)) (w : Wa G Y Z c0 s0 n μ (pc + 3) L (.inl (μ a 1) :: st)) : Wa G Y Z c0 s0 n μ pc L (.inr a :: st) :=
  a_getfN (k := 1) cf_1 hd (by decide) rfl (by rw [hY]; exact lf_X6_126) ho (fun _ => w)
theorem lf_X6_137 : Cond.fieldLinkNest RX6 137 RX1 "light" "I" "ContactWays" ∈ gN := gN_mem (i := 128) (by decide +kernel) (by decide +kernel)
theorem g_X6_137 {G : GT} {Y : MD} {Z : ZT} {c0 s0 n pc : Nat} {μ : Mem} {L : List (Nat × AV)} {st : List AV} {a : Int} (hY : Y.1.cls = RX6) (hd : decode Y.2.1 pc = .ok (.getfield 137, 3)) (ho : gx G n μ → 0 ≤ a ∧ a < n ∧ SH a = (1, 6)) (w : Wa G Y Z c0 s0 n μ (pc + 3) L (.inl (μ a 5) :: st)) : Wa G Y Z c0 s0 n μ pc L (.inr a :: st) :=
  a_getfN (k := 5) cf_1 hd (by decide) rfl (by rw [hY]; exact lf_X6_137) ho (fun _ => w)
theorem lf_X7_14 : Cond.fieldLink RX7 14 RX7 "nobody" "LContactWays$Bundle;" ∈ gT := gT_mem (i := 293) (by decide +kernel) (by decide +kernel)
theorem g_X7_14 {G : GT} {Y : MD} {Z : ZT} {c0 s0 n pc : Nat} {μ : Mem} {L : List (Nat × AV)} {st : List AV} {a : Int} (hY : Y.1.cls = RX7) (hd : decode Y.2.1 pc = .ok (.getfield 14, 3)) (ho : gx G n μ → 0 ≤ a ∧ a < n ∧ SH a = (7, 5)) (w : Wa G Y Z c0 s0 n μ (pc + 3) L (.inr (μ a 0) :: st)) : Wa G Y Z c0 s0 n μ pc L (.inr a :: st) :=
  a_getf (k := 0) cf_7 hd (by decide) rfl (by rw [hY]; exact lf_X7_14) ho (fun _ => w)
theorem gs_X7_14 {G : GT} {Y : MD} {Z : ZT} {c0 s0 n pc : Nat} {μ : Mem} {L : List (Nat × AV)} {st : List AV} {a : Int} (hY : Y.1.cls = RX7) (hd : decode Y.2.1 pc = .ok (.getfield 14, 3)) (hg : gx G = FX) (hs : St a 7 5) (w : Wa G Y Z c0 s0 n μ (pc + 3) L (.inr (a + 1) :: st)) : Wa G Y Z c0 s0 n μ pc L (.inr a :: st) :=
  a_fx (fun f => g_X7_14 hY hd (St_ho hg hs) (by rw [hg] at f; rw [fx_7_0 f hs]; exact w))
theorem p_X7_14 {G : GT} {Y : MD} {Z : ZT} {c0 s0 n pc : Nat} {μ : Mem} {L : List (Nat × AV)} {st : List AV} {a v : Int} (hY : Y.1.cls = RX7) (hi : Y.1.name = "<init>") (hd : decode Y.2.1 pc = .ok (.putfield 14, 3)) (ho : gx G n μ → 0 ≤ a ∧ a < n ∧ SH a = (7, 5)) (hx : gx G n μ → gx G n (up μ a 0 v)) (w : Wa G Y Z c0 s0 n (up μ a 0 v) (pc + 3) L st) : Wa G Y Z c0 s0 n μ pc L (.inr v :: .inr a :: st) :=
  a_putF (k := 0) cf_7 hd (by decide) rfl hY.symm hi rfl (sm_7 0 (by decide)) (by rw [hY]; exact lf_X7_14) ho (fun _ => trivial) hx w
theorem lf_X7_20 : Cond.fieldLink RX7 20 RX7 "bundles" "[LContactWays$Bundle;" ∈ gT := gT_mem (i := 294) (by decide +kernel) (by decide +kernel)
theorem g_X7_20 {G : GT} {Y : MD} {Z : ZT} {c0 s0 n pc : Nat} {μ : Mem} {L : List (Nat × AV)} {st : List AV} {a : Int} (hY : Y.1.cls = RX7) (hd : decode Y.2.1 pc = .ok (.getfield 20, 3)) (ho : gx G n μ → 0 ≤ a ∧ a < n ∧ SH a = (7, 5)) (w : Wa G Y Z c0 s0 n μ (pc + 3) L (.inr (μ a 1) :: st)) : Wa G Y Z c0 s0 n μ pc L (.inr a :: st) :=
  a_getf (k := 1) cf_7 hd (by decide) rfl (by rw [hY]; exact lf_X7_20) ho (fun _ => w)
theorem gs_X7_20 {G : GT} {Y : MD} {Z : ZT} {c0 s0 n pc : Nat} {μ : Mem} {L : List (Nat × AV)} {st : List AV} {a : Int} (hY : Y.1.cls = RX7) (hd : decode Y.2.1 pc = .ok (.getfield 20, 3)) (hg : gx G = FX) (hs : St a 7 5) (w : Wa G Y Z c0 s0 n μ (pc + 3) L (.inr (a + 4) :: st)) : Wa G Y Z c0 s0 n μ pc L (.inr a :: st) :=
  a_fx (fun f => g_X7_20 hY hd (St_ho hg hs) (by rw [hg] at f; rw [fx_7_1 f hs]; exact w))
theorem p_X7_20 {G : GT} {Y : MD} {Z : ZT} {c0 s0 n pc : Nat} {μ : Mem} {L : List (Nat × AV)} {st : List AV} {a v : Int} (hY : Y.1.cls = RX7) (hi : Y.1.name = "<init>") (hd : decode Y.2.1 pc = .ok (.putfield 20, 3)) (ho : gx G n μ → 0 ≤ a ∧ a < n ∧ SH a = (7, 5)) (hx : gx G n μ → gx G n (up μ a 1 v)) (w : Wa G Y Z c0 s0 n (up μ a 1 v) (pc + 3) L st) : Wa G Y Z c0 s0 n μ pc L (.inr v :: .inr a :: st) :=
  a_putF (k := 1) cf_7 hd (by decide) rfl hY.symm hi rfl (sm_7 1 (by decide)) (by rw [hY]; exact lf_X7_20) ho (fun _ => trivial) hx w
theorem lf_X7_24 : Cond.fieldLink RX7 24 RX7 "bundleCount" "I" ∈ gT := gT_mem (i := 295) (by decide +kernel) (by decide +kernel)
theorem g_X7_24 {G : GT} {Y : MD} {Z : ZT} {c0 s0 n pc : Nat} {μ : Mem} {L : List (Nat × AV)} {st : List AV} {a : Int} (hY : Y.1.cls = RX7) (hd : decode Y.2.1 pc = .ok (.getfield 24, 3)) (ho : gx G n μ → 0 ≤ a ∧ a < n ∧ SH a = (7, 5)) (w : Wa G Y Z c0 s0 n μ (pc + 3) L (.inl (μ a 2) :: st)) : Wa G Y Z c0 s0 n μ pc L (.inr a :: st) :=
  a_getf (k := 2) cf_7 hd (by decide) rfl (by rw [hY]; exact lf_X7_24) ho (fun _ => w)
theorem p_X7_24 {G : GT} {Y : MD} {Z : ZT} {c0 s0 n pc : Nat} {μ : Mem} {L : List (Nat × AV)} {st : List AV} {a v : Int} (hY : Y.1.cls = RX7) (hd : decode Y.2.1 pc = .ok (.putfield 24, 3)) (ho : gx G n μ → 0 ≤ a ∧ a < n ∧ SH a = (7, 5)) (hx : gx G n μ → gx G n (up μ a 2 v)) (w : Wa G Y Z c0 s0 n (up μ a 2 v) (pc + 3) L st) : Wa G Y Z c0 s0 n μ pc L (.inl v :: .inr a :: st) :=
  a_putf (k := 2) cf_7 hd (by decide) rfl rfl (sm_7 2 (by decide)) (by rw [hY]; exact lf_X7_24) ho (fun h => h) hx w
theorem lf_X7_28 : Cond.fieldLink RX7 28 RX7 "now" "I" ∈ gT := gT_mem (i := 299) (by decide +kernel) (by decide +kernel)
theorem g_X7_28 {G : GT} {Y : MD} {Z : ZT} {c0 s0 n pc : Nat} {μ : Mem} {L : List (Nat × AV)} {st : List AV} {a : Int} (hY : Y.1.cls = RX7) (hd : decode Y.2.1 pc = .ok (.getfield 28, 3)) (ho : gx G n μ → 0 ≤ a ∧ a < n ∧ SH a = (7, 5)) (w : Wa G Y Z c0 s0 n μ (pc + 3) L (.inl (μ a 3) :: st)) : Wa G Y Z c0 s0 n μ pc L (.inr a :: st) :=
  a_getf (k := 3) cf_7 hd (by decide) rfl (by rw [hY]; exact lf_X7_28) ho (fun _ => w)
theorem p_X7_28 {G : GT} {Y : MD} {Z : ZT} {c0 s0 n pc : Nat} {μ : Mem} {L : List (Nat × AV)} {st : List AV} {a v : Int} (hY : Y.1.cls = RX7) (hd : decode Y.2.1 pc = .ok (.putfield 28, 3)) (ho : gx G n μ → 0 ≤ a ∧ a < n ∧ SH a = (7, 5)) (hx : gx G n μ → gx G n (up μ a 3 v)) (w : Wa G Y Z c0 s0 n (up μ a 3 v) (pc + 3) L st) : Wa G Y Z c0 s0 n μ pc L (.inl v :: .inr a :: st) :=
  a_putf (k := 3) cf_7 hd (by decide) rfl rfl (sm_7 3 (by decide)) (by rw [hY]; exact lf_X7_28) ho (fun h => h) hx w
theorem lf_X7_31 : Cond.fieldLink RX7 31 RX7 "missed" "I" ∈ gT := gT_mem (i := 303) (by decide +kernel) (by decide +kernel)
theorem g_X7_31 {G : GT} {Y : MD} {Z : ZT} {c0 s0 n pc : Nat} {μ : Mem} {L : List (Nat × AV)} {st : List AV} {a : Int} (hY : Y.1.cls = RX7) (hd : decode Y.2.1 pc = .ok (.getfield 31, 3)) (ho : gx G n μ → 0 ≤ a ∧ a < n ∧ SH a = (7, 5)) (w : Wa G Y Z c0 s0 n μ (pc + 3) L (.inl (μ a 4) :: st)) : Wa G Y Z c0 s0 n μ pc L (.inr a :: st) :=
  a_getf (k := 4) cf_7 hd (by decide) rfl (by rw [hY]; exact lf_X7_31) ho (fun _ => w)
theorem p_X7_31 {G : GT} {Y : MD} {Z : ZT} {c0 s0 n pc : Nat} {μ : Mem} {L : List (Nat × AV)} {st : List AV} {a v : Int} (hY : Y.1.cls = RX7) (hd : decode Y.2.1 pc = .ok (.putfield 31, 3)) (ho : gx G n μ → 0 ≤ a ∧ a < n ∧ SH a = (7, 5)) (hx : gx G n μ → gx G n (up μ a 4 v)) (w : Wa G Y Z c0 s0 n (up μ a 4 v) (pc + 3) L st) : Wa G Y Z c0 s0 n μ pc L (.inl v :: .inr a :: st) :=
  a_putf (k := 4) cf_7 hd (by decide) rfl rfl (sm_7 4 (by decide)) (by rw [hY]; exact lf_X7_31) ho (fun h => h) hx w
theorem lf_X8_9 : Cond.fieldLink RX8 9 RX8 "columns" "I" ∈ gT := gT_mem (i := 191) (by decide +kernel) (by decide +kernel)
theorem g_X8_9 {G : GT} {Y : MD} {Z : ZT} {c0 s0 n pc : Nat} {μ : Mem} {L : List (Nat × AV)} {st : List AV} {a : Int} (hY : Y.1.cls = RX8) (hd : decode Y.2.1 pc = .ok (.getfield 9, 3)) (ho : gx G n μ → 0 ≤ a ∧ a < n ∧ SH a = (8, 3)) (w : Wa G Y Z c0 s0 n μ (pc + 3) L (.inl (μ a 0) :: st)) : Wa G Y Z c0 s0 n μ pc L (.inr a :: st) :=
  a_getf (k := 0) cf_8 hd (by decide) rfl (by rw [hY]; exact lf_X8_9) ho (fun _ => w)
theorem gs_X8_9 {G : GT} {Y : MD} {Z : ZT} {c0 s0 n pc : Nat} {μ : Mem} {L : List (Nat × AV)} {st : List AV} {a : Int} (hY : Y.1.cls = RX8) (hd : decode Y.2.1 pc = .ok (.getfield 9, 3)) (hg : gx G = FX) (hs : St a 8 3) (w : Wa G Y Z c0 s0 n μ (pc + 3) L (.inl (colsOf (SH (a + 1)).2) :: st)) : Wa G Y Z c0 s0 n μ pc L (.inr a :: st) :=
  a_fx (fun f => g_X8_9 hY hd (St_ho hg hs) (by rw [hg] at f; rw [fx_8_0 f hs]; exact w))
theorem p_X8_9 {G : GT} {Y : MD} {Z : ZT} {c0 s0 n pc : Nat} {μ : Mem} {L : List (Nat × AV)} {st : List AV} {a v : Int} (hY : Y.1.cls = RX8) (hi : Y.1.name = "<init>") (hd : decode Y.2.1 pc = .ok (.putfield 9, 3)) (ho : gx G n μ → 0 ≤ a ∧ a < n ∧ SH a = (8, 3)) (hx : gx G n μ → gx G n (up μ a 0 v)) (w : Wa G Y Z c0 s0 n (up μ a 0 v) (pc + 3) L st) : Wa G Y Z c0 s0 n μ pc L (.inl v :: .inr a :: st) :=
  a_putF (k := 0) cf_8 hd (by decide) rfl hY.symm hi rfl (sm_8 0 (by decide)) (by rw [hY]; exact lf_X8_9) ho (fun h => h) hx w
theorem lf_X8_21 : Cond.fieldLink RX8 21 RX8 "cells" "[I" ∈ gT := gT_mem (i := 192) (by decide +kernel) (by decide +kernel)
theorem g_X8_21 {G : GT} {Y : MD} {Z : ZT} {c0 s0 n pc : Nat} {μ : Mem} {L : List (Nat × AV)} {st : List AV} {a : Int} (hY : Y.1.cls = RX8) (hd : decode Y.2.1 pc = .ok (.getfield 21, 3)) (ho : gx G n μ → 0 ≤ a ∧ a < n ∧ SH a = (8, 3)) (w : Wa G Y Z c0 s0 n μ (pc + 3) L (.inr (μ a 1) :: st)) : Wa G Y Z c0 s0 n μ pc L (.inr a :: st) :=
  a_getf (k := 1) cf_8 hd (by decide) rfl (by rw [hY]; exact lf_X8_21) ho (fun _ => w)
theorem gs_X8_21 {G : GT} {Y : MD} {Z : ZT} {c0 s0 n pc : Nat} {μ : Mem} {L : List (Nat × AV)} {st : List AV} {a : Int} (hY : Y.1.cls = RX8) (hd : decode Y.2.1 pc = .ok (.getfield 21, 3)) (hg : gx G = FX) (hs : St a 8 3) (w : Wa G Y Z c0 s0 n μ (pc + 3) L (.inr (a + 1) :: st)) : Wa G Y Z c0 s0 n μ pc L (.inr a :: st) :=
  a_fx (fun f => g_X8_21 hY hd (St_ho hg hs) (by rw [hg] at f; rw [fx_8_1 f hs]; exact w))
theorem p_X8_21 {G : GT} {Y : MD} {Z : ZT} {c0 s0 n pc : Nat} {μ : Mem} {L : List (Nat × AV)} {st : List AV} {a v : Int} (hY : Y.1.cls = RX8) (hi : Y.1.name = "<init>") (hd : decode Y.2.1 pc = .ok (.putfield 21, 3)) (ho : gx G n μ → 0 ≤ a ∧ a < n ∧ SH a = (8, 3)) (hx : gx G n μ → gx G n (up μ a 1 v)) (w : Wa G Y Z c0 s0 n (up μ a 1 v) (pc + 3) L st) : Wa G Y Z c0 s0 n μ pc L (.inr v :: .inr a :: st) :=
  a_putF (k := 1) cf_8 hd (by decide) rfl hY.symm hi rfl (sm_8 1 (by decide)) (by rw [hY]; exact lf_X8_21) ho (fun _ => trivial) hx w
theorem lf_X8_25 : Cond.fieldLink RX8 25 RX8 "rows" "I" ∈ gT := gT_mem (i := 193) (by decide +kernel) (by decide +kernel)
theorem g_X8_25 {G : GT} {Y : MD} {Z : ZT} {c0 s0 n pc : Nat} {μ : Mem} {L : List (Nat × AV)} {st : List AV} {a : Int} (hY : Y.1.cls = RX8) (hd : decode Y.2.1 pc = .ok (.getfield 25, 3)) (ho : gx G n μ → 0 ≤ a ∧ a < n ∧ SH a = (8, 3)) (w : Wa G Y Z c0 s0 n μ (pc + 3) L (.inl (μ a 2) :: st)) : Wa G Y Z c0 s0 n μ pc L (.inr a :: st) :=
  a_getf (k := 2) cf_8 hd (by decide) rfl (by rw [hY]; exact lf_X8_25) ho (fun _ => w)
theorem p_X8_25 {G : GT} {Y : MD} {Z : ZT} {c0 s0 n pc : Nat} {μ : Mem} {L : List (Nat × AV)} {st : List AV} {a v : Int} (hY : Y.1.cls = RX8) (hd : decode Y.2.1 pc = .ok (.putfield 25, 3)) (ho : gx G n μ → 0 ≤ a ∧ a < n ∧ SH a = (8, 3)) (hx : gx G n μ → gx G n (up μ a 2 v)) (w : Wa G Y Z c0 s0 n (up μ a 2 v) (pc + 3) L st) : Wa G Y Z c0 s0 n μ pc L (.inl v :: .inr a :: st) :=
  a_putf (k := 2) cf_8 hd (by decide) rfl rfl (sm_8 2 (by decide)) (by rw [hY]; exact lf_X8_25) ho (fun h => h) hx w
theorem lf_X9_9 : Cond.fieldLink RX9 9 RX9 "bytes" "[I" ∈ gT := gT_mem (i := 89) (by decide +kernel) (by decide +kernel)
theorem g_X9_9 {G : GT} {Y : MD} {Z : ZT} {c0 s0 n pc : Nat} {μ : Mem} {L : List (Nat × AV)} {st : List AV} {a : Int} (hY : Y.1.cls = RX9) (hd : decode Y.2.1 pc = .ok (.getfield 9, 3)) (ho : gx G n μ → 0 ≤ a ∧ a < n ∧ SH a = (9, 2)) (w : Wa G Y Z c0 s0 n μ (pc + 3) L (.inr (μ a 0) :: st)) : Wa G Y Z c0 s0 n μ pc L (.inr a :: st) :=
  a_getf (k := 0) cf_9 hd (by decide) rfl (by rw [hY]; exact lf_X9_9) ho (fun _ => w)
theorem gs_X9_9 {G : GT} {Y : MD} {Z : ZT} {c0 s0 n pc : Nat} {μ : Mem} {L : List (Nat × AV)} {st : List AV} {a : Int} (hY : Y.1.cls = RX9) (hd : decode Y.2.1 pc = .ok (.getfield 9, 3)) (hg : gx G = FX) (hs : St a 9 2) (w : Wa G Y Z c0 s0 n μ (pc + 3) L (.inr (a + 1) :: st)) : Wa G Y Z c0 s0 n μ pc L (.inr a :: st) :=
  a_fx (fun f => g_X9_9 hY hd (St_ho hg hs) (by rw [hg] at f; rw [fx_9_0 f hs]; exact w))
theorem p_X9_9 {G : GT} {Y : MD} {Z : ZT} {c0 s0 n pc : Nat} {μ : Mem} {L : List (Nat × AV)} {st : List AV} {a v : Int} (hY : Y.1.cls = RX9) (hi : Y.1.name = "<init>") (hd : decode Y.2.1 pc = .ok (.putfield 9, 3)) (ho : gx G n μ → 0 ≤ a ∧ a < n ∧ SH a = (9, 2)) (hx : gx G n μ → gx G n (up μ a 0 v)) (w : Wa G Y Z c0 s0 n (up μ a 0 v) (pc + 3) L st) : Wa G Y Z c0 s0 n μ pc L (.inr v :: .inr a :: st) :=
  a_putF (k := 0) cf_9 hd (by decide) rfl hY.symm hi rfl (sm_9 0 (by decide)) (by rw [hY]; exact lf_X9_9) ho (fun _ => trivial) hx w
theorem lf_X9_15 : Cond.fieldLink RX9 15 RX9 "length" "I" ∈ gT := gT_mem (i := 90) (by decide +kernel) (by decide +kernel)
theorem g_X9_15 {G : GT} {Y : MD} {Z : ZT} {c0 s0 n pc : Nat} {μ : Mem} {L : List (Nat × AV)} {st : List AV} {a : Int} (hY : Y.1.cls = RX9) (hd : decode Y.2.1 pc = .ok (.getfield 15, 3)) (ho : gx G n μ → 0 ≤ a ∧ a < n ∧ SH a = (9, 2)) (w : Wa G Y Z c0 s0 n μ (pc + 3) L (.inl (μ a 1) :: st)) : Wa G Y Z c0 s0 n μ pc L (.inr a :: st) :=
  a_getf (k := 1) cf_9 hd (by decide) rfl (by rw [hY]; exact lf_X9_15) ho (fun _ => w)
theorem p_X9_15 {G : GT} {Y : MD} {Z : ZT} {c0 s0 n pc : Nat} {μ : Mem} {L : List (Nat × AV)} {st : List AV} {a v : Int} (hY : Y.1.cls = RX9) (hd : decode Y.2.1 pc = .ok (.putfield 15, 3)) (ho : gx G n μ → 0 ≤ a ∧ a < n ∧ SH a = (9, 2)) (hx : gx G n μ → gx G n (up μ a 1 v)) (w : Wa G Y Z c0 s0 n (up μ a 1 v) (pc + 3) L st) : Wa G Y Z c0 s0 n μ pc L (.inl v :: .inr a :: st) :=
  a_putf (k := 1) cf_9 hd (by decide) rfl rfl (sm_9 1 (by decide)) (by rw [hY]; exact lf_X9_15) ho (fun h => h) hx w
theorem lf_X11_7 : Cond.fieldLink RX11 7 RX11 "of" "[I" ∈ gT := gT_mem (i := 832) (by decide +kernel) (by decide +kernel)
theorem g_X11_7 {G : GT} {Y : MD} {Z : ZT} {c0 s0 n pc : Nat} {μ : Mem} {L : List (Nat × AV)} {st : List AV} {a : Int} (hY : Y.1.cls = RX11) (hd : decode Y.2.1 pc = .ok (.getfield 7, 3)) (ho : gx G n μ → 0 ≤ a ∧ a < n ∧ SH a = (11, 28)) (w : Wa G Y Z c0 s0 n μ (pc + 3) L (.inr (μ a 3) :: st)) : Wa G Y Z c0 s0 n μ pc L (.inr a :: st) :=
  a_getf (k := 3) cf_11 hd (by decide) rfl (by rw [hY]; exact lf_X11_7) ho (fun _ => w)
theorem gs_X11_7 {G : GT} {Y : MD} {Z : ZT} {c0 s0 n pc : Nat} {μ : Mem} {L : List (Nat × AV)} {st : List AV} {a : Int} (hY : Y.1.cls = RX11) (hd : decode Y.2.1 pc = .ok (.getfield 7, 3)) (hg : gx G = FX) (hs : St a 11 28) (w : Wa G Y Z c0 s0 n μ (pc + 3) L (.inr (400) :: st)) : Wa G Y Z c0 s0 n μ pc L (.inr a :: st) :=
  a_fx (fun f => g_X11_7 hY hd (St_ho hg hs) (by rw [hg] at f; rw [fx_11_3 f hs]; exact w))
theorem p_X11_7 {G : GT} {Y : MD} {Z : ZT} {c0 s0 n pc : Nat} {μ : Mem} {L : List (Nat × AV)} {st : List AV} {a v : Int} (hY : Y.1.cls = RX11) (hi : Y.1.name = "<init>") (hd : decode Y.2.1 pc = .ok (.putfield 7, 3)) (ho : gx G n μ → 0 ≤ a ∧ a < n ∧ SH a = (11, 28)) (hx : gx G n μ → gx G n (up μ a 3 v)) (w : Wa G Y Z c0 s0 n (up μ a 3 v) (pc + 3) L st) : Wa G Y Z c0 s0 n μ pc L (.inr v :: .inr a :: st) :=
  a_putF (k := 3) cf_11 hd (by decide) rfl hY.symm hi rfl (sm_11 3 (by decide)) (by rw [hY]; exact lf_X11_7) ho (fun _ => trivial) hx w
theorem lf_X11_13 : Cond.fieldLink RX11 13 RX11 "read" "[I" ∈ gT := gT_mem (i := 835) (by decide +kernel) (by decide +kernel)
theorem g_X11_13 {G : GT} {Y : MD} {Z : ZT} {c0 s0 n pc : Nat} {μ : Mem} {L : List (Nat × AV)} {st : List AV} {a : Int} (hY : Y.1.cls = RX11) (hd : decode Y.2.1 pc = .ok (.getfield 13, 3)) (ho : gx G n μ → 0 ≤ a ∧ a < n ∧ SH a = (11, 28)) (w : Wa G Y Z c0 s0 n μ (pc + 3) L (.inr (μ a 6) :: st)) : Wa G Y Z c0 s0 n μ pc L (.inr a :: st) :=
  a_getf (k := 6) cf_11 hd (by decide) rfl (by rw [hY]; exact lf_X11_13) ho (fun _ => w)
theorem gs_X11_13 {G : GT} {Y : MD} {Z : ZT} {c0 s0 n pc : Nat} {μ : Mem} {L : List (Nat × AV)} {st : List AV} {a : Int} (hY : Y.1.cls = RX11) (hd : decode Y.2.1 pc = .ok (.getfield 13, 3)) (hg : gx G = FX) (hs : St a 11 28) (w : Wa G Y Z c0 s0 n μ (pc + 3) L (.inr (401) :: st)) : Wa G Y Z c0 s0 n μ pc L (.inr a :: st) :=
  a_fx (fun f => g_X11_13 hY hd (St_ho hg hs) (by rw [hg] at f; rw [fx_11_6 f hs]; exact w))
theorem p_X11_13 {G : GT} {Y : MD} {Z : ZT} {c0 s0 n pc : Nat} {μ : Mem} {L : List (Nat × AV)} {st : List AV} {a v : Int} (hY : Y.1.cls = RX11) (hi : Y.1.name = "<init>") (hd : decode Y.2.1 pc = .ok (.putfield 13, 3)) (ho : gx G n μ → 0 ≤ a ∧ a < n ∧ SH a = (11, 28)) (hx : gx G n μ → gx G n (up μ a 6 v)) (w : Wa G Y Z c0 s0 n (up μ a 6 v) (pc + 3) L st) : Wa G Y Z c0 s0 n μ pc L (.inr v :: .inr a :: st) :=
  a_putF (k := 6) cf_11 hd (by decide) rfl hY.symm hi rfl (sm_11 6 (by decide)) (by rw [hY]; exact lf_X11_13) ho (fun _ => trivial) hx w
theorem lf_X11_16 : Cond.fieldLink RX11 16 RX11 "s" "[I" ∈ gT := gT_mem (i := 836) (by decide +kernel) (by decide +kernel)
theorem g_X11_16 {G : GT} {Y : MD} {Z : ZT} {c0 s0 n pc : Nat} {μ : Mem} {L : List (Nat × AV)} {st : List AV} {a : Int} (hY : Y.1.cls = RX11) (hd : decode Y.2.1 pc = .ok (.getfield 16, 3)) (ho : gx G n μ → 0 ≤ a ∧ a < n ∧ SH a = (11, 28)) (w : Wa G Y Z c0 s0 n μ (pc + 3) L (.inr (μ a 7) :: st)) : Wa G Y Z c0 s0 n μ pc L (.inr a :: st) :=
  a_getf (k := 7) cf_11 hd (by decide) rfl (by rw [hY]; exact lf_X11_16) ho (fun _ => w)
theorem gs_X11_16 {G : GT} {Y : MD} {Z : ZT} {c0 s0 n pc : Nat} {μ : Mem} {L : List (Nat × AV)} {st : List AV} {a : Int} (hY : Y.1.cls = RX11) (hd : decode Y.2.1 pc = .ok (.getfield 16, 3)) (hg : gx G = FX) (hs : St a 11 28) (w : Wa G Y Z c0 s0 n μ (pc + 3) L (.inr (402) :: st)) : Wa G Y Z c0 s0 n μ pc L (.inr a :: st) :=
  a_fx (fun f => g_X11_16 hY hd (St_ho hg hs) (by rw [hg] at f; rw [fx_11_7 f hs]; exact w))
theorem p_X11_16 {G : GT} {Y : MD} {Z : ZT} {c0 s0 n pc : Nat} {μ : Mem} {L : List (Nat × AV)} {st : List AV} {a v : Int} (hY : Y.1.cls = RX11) (hi : Y.1.name = "<init>") (hd : decode Y.2.1 pc = .ok (.putfield 16, 3)) (ho : gx G n μ → 0 ≤ a ∧ a < n ∧ SH a = (11, 28)) (hx : gx G n μ → gx G n (up μ a 7 v)) (w : Wa G Y Z c0 s0 n (up μ a 7 v) (pc + 3) L st) : Wa G Y Z c0 s0 n μ pc L (.inr v :: .inr a :: st) :=
  a_putF (k := 7) cf_11 hd (by decide) rfl hY.symm hi rfl (sm_11 7 (by decide)) (by rw [hY]; exact lf_X11_16) ho (fun _ => trivial) hx w
theorem lf_X11_19 : Cond.fieldLink RX11 19 RX11 "past" "[I" ∈ gT := gT_mem (i := 838) (by decide +kernel) (by decide +kernel)
theorem g_X11_19 {G : GT} {Y : MD} {Z : ZT} {c0 s0 n pc : Nat} {μ : Mem} {L : List (Nat × AV)} {st : List AV} {a : Int} (hY : Y.1.cls = RX11) (hd : decode Y.2.1 pc = .ok (.getfield 19, 3)) (ho : gx G n μ → 0 ≤ a ∧ a < n ∧ SH a = (11, 28)) (w : Wa G Y Z c0 s0 n μ (pc + 3) L (.inr (μ a 9) :: st)) : Wa G Y Z c0 s0 n μ pc L (.inr a :: st) :=
  a_getf (k := 9) cf_11 hd (by decide) rfl (by rw [hY]; exact lf_X11_19) ho (fun _ => w)
theorem gs_X11_19 {G : GT} {Y : MD} {Z : ZT} {c0 s0 n pc : Nat} {μ : Mem} {L : List (Nat × AV)} {st : List AV} {a : Int} (hY : Y.1.cls = RX11) (hd : decode Y.2.1 pc = .ok (.getfield 19, 3)) (hg : gx G = FX) (hs : St a 11 28) (w : Wa G Y Z c0 s0 n μ (pc + 3) L (.inr (403) :: st)) : Wa G Y Z c0 s0 n μ pc L (.inr a :: st) :=
  a_fx (fun f => g_X11_19 hY hd (St_ho hg hs) (by rw [hg] at f; rw [fx_11_9 f hs]; exact w))
theorem p_X11_19 {G : GT} {Y : MD} {Z : ZT} {c0 s0 n pc : Nat} {μ : Mem} {L : List (Nat × AV)} {st : List AV} {a v : Int} (hY : Y.1.cls = RX11) (hi : Y.1.name = "<init>") (hd : decode Y.2.1 pc = .ok (.putfield 19, 3)) (ho : gx G n μ → 0 ≤ a ∧ a < n ∧ SH a = (11, 28)) (hx : gx G n μ → gx G n (up μ a 9 v)) (w : Wa G Y Z c0 s0 n (up μ a 9 v) (pc + 3) L st) : Wa G Y Z c0 s0 n μ pc L (.inr v :: .inr a :: st) :=
  a_putF (k := 9) cf_11 hd (by decide) rfl hY.symm hi rfl (sm_11 9 (by decide)) (by rw [hY]; exact lf_X11_19) ho (fun _ => trivial) hx w
theorem lf_X11_22 : Cond.fieldLink RX11 22 RX11 "kept" "[I" ∈ gT := gT_mem (i := 839) (by decide +kernel) (by decide +kernel)
theorem g_X11_22 {G : GT} {Y : MD} {Z : ZT} {c0 s0 n pc : Nat} {μ : Mem} {L : List (Nat × AV)} {st : List AV} {a : Int} (hY : Y.1.cls = RX11) (hd : decode Y.2.1 pc = .ok (.getfield 22, 3)) (ho : gx G n μ → 0 ≤ a ∧ a < n ∧ SH a = (11, 28)) (w : Wa G Y Z c0 s0 n μ (pc + 3) L (.inr (μ a 10) :: st)) : Wa G Y Z c0 s0 n μ pc L (.inr a :: st) :=
  a_getf (k := 10) cf_11 hd (by decide) rfl (by rw [hY]; exact lf_X11_22) ho (fun _ => w)
theorem gs_X11_22 {G : GT} {Y : MD} {Z : ZT} {c0 s0 n pc : Nat} {μ : Mem} {L : List (Nat × AV)} {st : List AV} {a : Int} (hY : Y.1.cls = RX11) (hd : decode Y.2.1 pc = .ok (.getfield 22, 3)) (hg : gx G = FX) (hs : St a 11 28) (w : Wa G Y Z c0 s0 n μ (pc + 3) L (.inr (404) :: st)) : Wa G Y Z c0 s0 n μ pc L (.inr a :: st) :=
  a_fx (fun f => g_X11_22 hY hd (St_ho hg hs) (by rw [hg] at f; rw [fx_11_10 f hs]; exact w))
theorem p_X11_22 {G : GT} {Y : MD} {Z : ZT} {c0 s0 n pc : Nat} {μ : Mem} {L : List (Nat × AV)} {st : List AV} {a v : Int} (hY : Y.1.cls = RX11) (hi : Y.1.name = "<init>") (hd : decode Y.2.1 pc = .ok (.putfield 22, 3)) (ho : gx G n μ → 0 ≤ a ∧ a < n ∧ SH a = (11, 28)) (hx : gx G n μ → gx G n (up μ a 10 v)) (w : Wa G Y Z c0 s0 n (up μ a 10 v) (pc + 3) L st) : Wa G Y Z c0 s0 n μ pc L (.inr v :: .inr a :: st) :=
  a_putF (k := 10) cf_11 hd (by decide) rfl hY.symm hi rfl (sm_11 10 (by decide)) (by rw [hY]; exact lf_X11_22) ho (fun _ => trivial) hx w
theorem lf_X11_25 : Cond.fieldLink RX11 25 RX11 "isKept" "[Z" ∈ gT := gT_mem (i := 840) (by decide +kernel) (by decide +kernel)
theorem g_X11_25 {G : GT} {Y : MD} {Z : ZT} {c0 s0 n pc : Nat} {μ : Mem} {L : List (Nat × AV)} {st : List AV} {a : Int} (hY : Y.1.cls = RX11) (hd : decode Y.2.1 pc = .ok (.getfield 25, 3)) (ho : gx G n μ → 0 ≤ a ∧ a < n ∧ SH a = (11, 28)) (w : Wa G Y Z c0 s0 n μ (pc + 3) L (.inr (μ a 11) :: st)) : Wa G Y Z c0 s0 n μ pc L (.inr a :: st) :=
  a_getf (k := 11) cf_11 hd (by decide) rfl (by rw [hY]; exact lf_X11_25) ho (fun _ => w)
theorem gs_X11_25 {G : GT} {Y : MD} {Z : ZT} {c0 s0 n pc : Nat} {μ : Mem} {L : List (Nat × AV)} {st : List AV} {a : Int} (hY : Y.1.cls = RX11) (hd : decode Y.2.1 pc = .ok (.getfield 25, 3)) (hg : gx G = FX) (hs : St a 11 28) (w : Wa G Y Z c0 s0 n μ (pc + 3) L (.inr (405) :: st)) : Wa G Y Z c0 s0 n μ pc L (.inr a :: st) :=
  a_fx (fun f => g_X11_25 hY hd (St_ho hg hs) (by rw [hg] at f; rw [fx_11_11 f hs]; exact w))
theorem p_X11_25 {G : GT} {Y : MD} {Z : ZT} {c0 s0 n pc : Nat} {μ : Mem} {L : List (Nat × AV)} {st : List AV} {a v : Int} (hY : Y.1.cls = RX11) (hi : Y.1.name = "<init>") (hd : decode Y.2.1 pc = .ok (.putfield 25, 3)) (ho : gx G n μ → 0 ≤ a ∧ a < n ∧ SH a = (11, 28)) (hx : gx G n μ → gx G n (up μ a 11 v)) (w : Wa G Y Z c0 s0 n (up μ a 11 v) (pc + 3) L st) : Wa G Y Z c0 s0 n μ pc L (.inr v :: .inr a :: st) :=
  a_putF (k := 11) cf_11 hd (by decide) rfl hY.symm hi rfl (sm_11 11 (by decide)) (by rw [hY]; exact lf_X11_25) ho (fun _ => trivial) hx w
theorem lf_X11_29 : Cond.fieldLink RX11 29 RX11 "aside" "[I" ∈ gT := gT_mem (i := 841) (by decide +kernel) (by decide +kernel)
theorem g_X11_29 {G : GT} {Y : MD} {Z : ZT} {c0 s0 n pc : Nat} {μ : Mem} {L : List (Nat × AV)} {st : List AV} {a : Int} (hY : Y.1.cls = RX11) (hd : decode Y.2.1 pc = .ok (.getfield 29, 3)) (ho : gx G n μ → 0 ≤ a ∧ a < n ∧ SH a = (11, 28)) (w : Wa G Y Z c0 s0 n μ (pc + 3) L (.inr (μ a 12) :: st)) : Wa G Y Z c0 s0 n μ pc L (.inr a :: st) :=
  a_getf (k := 12) cf_11 hd (by decide) rfl (by rw [hY]; exact lf_X11_29) ho (fun _ => w)
theorem gs_X11_29 {G : GT} {Y : MD} {Z : ZT} {c0 s0 n pc : Nat} {μ : Mem} {L : List (Nat × AV)} {st : List AV} {a : Int} (hY : Y.1.cls = RX11) (hd : decode Y.2.1 pc = .ok (.getfield 29, 3)) (hg : gx G = FX) (hs : St a 11 28) (w : Wa G Y Z c0 s0 n μ (pc + 3) L (.inr (406) :: st)) : Wa G Y Z c0 s0 n μ pc L (.inr a :: st) :=
  a_fx (fun f => g_X11_29 hY hd (St_ho hg hs) (by rw [hg] at f; rw [fx_11_12 f hs]; exact w))
theorem p_X11_29 {G : GT} {Y : MD} {Z : ZT} {c0 s0 n pc : Nat} {μ : Mem} {L : List (Nat × AV)} {st : List AV} {a v : Int} (hY : Y.1.cls = RX11) (hi : Y.1.name = "<init>") (hd : decode Y.2.1 pc = .ok (.putfield 29, 3)) (ho : gx G n μ → 0 ≤ a ∧ a < n ∧ SH a = (11, 28)) (hx : gx G n μ → gx G n (up μ a 12 v)) (w : Wa G Y Z c0 s0 n (up μ a 12 v) (pc + 3) L st) : Wa G Y Z c0 s0 n μ pc L (.inr v :: .inr a :: st) :=
  a_putF (k := 12) cf_11 hd (by decide) rfl hY.symm hi rfl (sm_11 12 (by decide)) (by rw [hY]; exact lf_X11_29) ho (fun _ => trivial) hx w
theorem lf_X11_32 : Cond.fieldLink RX11 32 RX11 "seenNode" "[I" ∈ gT := gT_mem (i := 843) (by decide +kernel) (by decide +kernel)
theorem g_X11_32 {G : GT} {Y : MD} {Z : ZT} {c0 s0 n pc : Nat} {μ : Mem} {L : List (Nat × AV)} {st : List AV} {a : Int} (hY : Y.1.cls = RX11) (hd : decode Y.2.1 pc = .ok (.getfield 32, 3)) (ho : gx G n μ → 0 ≤ a ∧ a < n ∧ SH a = (11, 28)) (w : Wa G Y Z c0 s0 n μ (pc + 3) L (.inr (μ a 14) :: st)) : Wa G Y Z c0 s0 n μ pc L (.inr a :: st) :=
  a_getf (k := 14) cf_11 hd (by decide) rfl (by rw [hY]; exact lf_X11_32) ho (fun _ => w)
theorem gs_X11_32 {G : GT} {Y : MD} {Z : ZT} {c0 s0 n pc : Nat} {μ : Mem} {L : List (Nat × AV)} {st : List AV} {a : Int} (hY : Y.1.cls = RX11) (hd : decode Y.2.1 pc = .ok (.getfield 32, 3)) (hg : gx G = FX) (hs : St a 11 28) (w : Wa G Y Z c0 s0 n μ (pc + 3) L (.inr (407) :: st)) : Wa G Y Z c0 s0 n μ pc L (.inr a :: st) :=
  a_fx (fun f => g_X11_32 hY hd (St_ho hg hs) (by rw [hg] at f; rw [fx_11_14 f hs]; exact w))
theorem p_X11_32 {G : GT} {Y : MD} {Z : ZT} {c0 s0 n pc : Nat} {μ : Mem} {L : List (Nat × AV)} {st : List AV} {a v : Int} (hY : Y.1.cls = RX11) (hi : Y.1.name = "<init>") (hd : decode Y.2.1 pc = .ok (.putfield 32, 3)) (ho : gx G n μ → 0 ≤ a ∧ a < n ∧ SH a = (11, 28)) (hx : gx G n μ → gx G n (up μ a 14 v)) (w : Wa G Y Z c0 s0 n (up μ a 14 v) (pc + 3) L st) : Wa G Y Z c0 s0 n μ pc L (.inr v :: .inr a :: st) :=
  a_putF (k := 14) cf_11 hd (by decide) rfl hY.symm hi rfl (sm_11 14 (by decide)) (by rw [hY]; exact lf_X11_32) ho (fun _ => trivial) hx w
theorem lf_X11_35 : Cond.fieldLink RX11 35 RX11 "seenGoal" "[I" ∈ gT := gT_mem (i := 844) (by decide +kernel) (by decide +kernel)
theorem g_X11_35 {G : GT} {Y : MD} {Z : ZT} {c0 s0 n pc : Nat} {μ : Mem} {L : List (Nat × AV)} {st : List AV} {a : Int} (hY : Y.1.cls = RX11) (hd : decode Y.2.1 pc = .ok (.getfield 35, 3)) (ho : gx G n μ → 0 ≤ a ∧ a < n ∧ SH a = (11, 28)) (w : Wa G Y Z c0 s0 n μ (pc + 3) L (.inr (μ a 15) :: st)) : Wa G Y Z c0 s0 n μ pc L (.inr a :: st) :=
  a_getf (k := 15) cf_11 hd (by decide) rfl (by rw [hY]; exact lf_X11_35) ho (fun _ => w)
theorem gs_X11_35 {G : GT} {Y : MD} {Z : ZT} {c0 s0 n pc : Nat} {μ : Mem} {L : List (Nat × AV)} {st : List AV} {a : Int} (hY : Y.1.cls = RX11) (hd : decode Y.2.1 pc = .ok (.getfield 35, 3)) (hg : gx G = FX) (hs : St a 11 28) (w : Wa G Y Z c0 s0 n μ (pc + 3) L (.inr (408) :: st)) : Wa G Y Z c0 s0 n μ pc L (.inr a :: st) :=
  a_fx (fun f => g_X11_35 hY hd (St_ho hg hs) (by rw [hg] at f; rw [fx_11_15 f hs]; exact w))
theorem p_X11_35 {G : GT} {Y : MD} {Z : ZT} {c0 s0 n pc : Nat} {μ : Mem} {L : List (Nat × AV)} {st : List AV} {a v : Int} (hY : Y.1.cls = RX11) (hi : Y.1.name = "<init>") (hd : decode Y.2.1 pc = .ok (.putfield 35, 3)) (ho : gx G n μ → 0 ≤ a ∧ a < n ∧ SH a = (11, 28)) (hx : gx G n μ → gx G n (up μ a 15 v)) (w : Wa G Y Z c0 s0 n (up μ a 15 v) (pc + 3) L st) : Wa G Y Z c0 s0 n μ pc L (.inr v :: .inr a :: st) :=
  a_putF (k := 15) cf_11 hd (by decide) rfl hY.symm hi rfl (sm_11 15 (by decide)) (by rw [hY]; exact lf_X11_35) ho (fun _ => trivial) hx w
theorem lf_X11_38 : Cond.fieldLink RX11 38 RX11 "seenIs" "[I" ∈ gT := gT_mem (i := 845) (by decide +kernel) (by decide +kernel)
theorem g_X11_38 {G : GT} {Y : MD} {Z : ZT} {c0 s0 n pc : Nat} {μ : Mem} {L : List (Nat × AV)} {st : List AV} {a : Int} (hY : Y.1.cls = RX11) (hd : decode Y.2.1 pc = .ok (.getfield 38, 3)) (ho : gx G n μ → 0 ≤ a ∧ a < n ∧ SH a = (11, 28)) (w : Wa G Y Z c0 s0 n μ (pc + 3) L (.inr (μ a 16) :: st)) : Wa G Y Z c0 s0 n μ pc L (.inr a :: st) :=
  a_getf (k := 16) cf_11 hd (by decide) rfl (by rw [hY]; exact lf_X11_38) ho (fun _ => w)
theorem gs_X11_38 {G : GT} {Y : MD} {Z : ZT} {c0 s0 n pc : Nat} {μ : Mem} {L : List (Nat × AV)} {st : List AV} {a : Int} (hY : Y.1.cls = RX11) (hd : decode Y.2.1 pc = .ok (.getfield 38, 3)) (hg : gx G = FX) (hs : St a 11 28) (w : Wa G Y Z c0 s0 n μ (pc + 3) L (.inr (409) :: st)) : Wa G Y Z c0 s0 n μ pc L (.inr a :: st) :=
  a_fx (fun f => g_X11_38 hY hd (St_ho hg hs) (by rw [hg] at f; rw [fx_11_16 f hs]; exact w))
theorem p_X11_38 {G : GT} {Y : MD} {Z : ZT} {c0 s0 n pc : Nat} {μ : Mem} {L : List (Nat × AV)} {st : List AV} {a v : Int} (hY : Y.1.cls = RX11) (hi : Y.1.name = "<init>") (hd : decode Y.2.1 pc = .ok (.putfield 38, 3)) (ho : gx G n μ → 0 ≤ a ∧ a < n ∧ SH a = (11, 28)) (hx : gx G n μ → gx G n (up μ a 16 v)) (w : Wa G Y Z c0 s0 n (up μ a 16 v) (pc + 3) L st) : Wa G Y Z c0 s0 n μ pc L (.inr v :: .inr a :: st) :=
  a_putF (k := 16) cf_11 hd (by decide) rfl hY.symm hi rfl (sm_11 16 (by decide)) (by rw [hY]; exact lf_X11_38) ho (fun _ => trivial) hx w
theorem lf_X11_41 : Cond.fieldLink RX11 41 RX11 "text" "[I" ∈ gT := gT_mem (i := 847) (by decide +kernel) (by decide +kernel)
theorem g_X11_41 {G : GT} {Y : MD} {Z : ZT} {c0 s0 n pc : Nat} {μ : Mem} {L : List (Nat × AV)} {st : List AV} {a : Int} (hY : Y.1.cls = RX11) (hd : decode Y.2.1 pc = .ok (.getfield 41, 3)) (ho : gx G n μ → 0 ≤ a ∧ a < n ∧ SH a = (11, 28)) (w : Wa G Y Z c0 s0 n μ (pc + 3) L (.inr (μ a 18) :: st)) : Wa G Y Z c0 s0 n μ pc L (.inr a :: st) :=
  a_getf (k := 18) cf_11 hd (by decide) rfl (by rw [hY]; exact lf_X11_41) ho (fun _ => w)
theorem gs_X11_41 {G : GT} {Y : MD} {Z : ZT} {c0 s0 n pc : Nat} {μ : Mem} {L : List (Nat × AV)} {st : List AV} {a : Int} (hY : Y.1.cls = RX11) (hd : decode Y.2.1 pc = .ok (.getfield 41, 3)) (hg : gx G = FX) (hs : St a 11 28) (w : Wa G Y Z c0 s0 n μ (pc + 3) L (.inr (410) :: st)) : Wa G Y Z c0 s0 n μ pc L (.inr a :: st) :=
  a_fx (fun f => g_X11_41 hY hd (St_ho hg hs) (by rw [hg] at f; rw [fx_11_18 f hs]; exact w))
theorem p_X11_41 {G : GT} {Y : MD} {Z : ZT} {c0 s0 n pc : Nat} {μ : Mem} {L : List (Nat × AV)} {st : List AV} {a v : Int} (hY : Y.1.cls = RX11) (hi : Y.1.name = "<init>") (hd : decode Y.2.1 pc = .ok (.putfield 41, 3)) (ho : gx G n μ → 0 ≤ a ∧ a < n ∧ SH a = (11, 28)) (hx : gx G n μ → gx G n (up μ a 18 v)) (w : Wa G Y Z c0 s0 n (up μ a 18 v) (pc + 3) L st) : Wa G Y Z c0 s0 n μ pc L (.inr v :: .inr a :: st) :=
  a_putF (k := 18) cf_11 hd (by decide) rfl hY.symm hi rfl (sm_11 18 (by decide)) (by rw [hY]; exact lf_X11_41) ho (fun _ => trivial) hx w
theorem lf_X11_44 : Cond.fieldLink RX11 44 RX11 "taken" "[Z" ∈ gT := gT_mem (i := 851) (by decide +kernel) (by decide +kernel)
theorem g_X11_44 {G : GT} {Y : MD} {Z : ZT} {c0 s0 n pc : Nat} {μ : Mem} {L : List (Nat × AV)} {st : List AV} {a : Int} (hY : Y.1.cls = RX11) (hd : decode Y.2.1 pc = .ok (.getfield 44, 3)) (ho : gx G n μ → 0 ≤ a ∧ a < n ∧ SH a = (11, 28)) (w : Wa G Y Z c0 s0 n μ (pc + 3) L (.inr (μ a 22) :: st)) : Wa G Y Z c0 s0 n μ pc L (.inr a :: st) :=
  a_getf (k := 22) cf_11 hd (by decide) rfl (by rw [hY]; exact lf_X11_44) ho (fun _ => w)
theorem gs_X11_44 {G : GT} {Y : MD} {Z : ZT} {c0 s0 n pc : Nat} {μ : Mem} {L : List (Nat × AV)} {st : List AV} {a : Int} (hY : Y.1.cls = RX11) (hd : decode Y.2.1 pc = .ok (.getfield 44, 3)) (hg : gx G = FX) (hs : St a 11 28) (w : Wa G Y Z c0 s0 n μ (pc + 3) L (.inr (411) :: st)) : Wa G Y Z c0 s0 n μ pc L (.inr a :: st) :=
  a_fx (fun f => g_X11_44 hY hd (St_ho hg hs) (by rw [hg] at f; rw [fx_11_22 f hs]; exact w))
theorem p_X11_44 {G : GT} {Y : MD} {Z : ZT} {c0 s0 n pc : Nat} {μ : Mem} {L : List (Nat × AV)} {st : List AV} {a v : Int} (hY : Y.1.cls = RX11) (hi : Y.1.name = "<init>") (hd : decode Y.2.1 pc = .ok (.putfield 44, 3)) (ho : gx G n μ → 0 ≤ a ∧ a < n ∧ SH a = (11, 28)) (hx : gx G n μ → gx G n (up μ a 22 v)) (w : Wa G Y Z c0 s0 n (up μ a 22 v) (pc + 3) L st) : Wa G Y Z c0 s0 n μ pc L (.inr v :: .inr a :: st) :=
  a_putF (k := 22) cf_11 hd (by decide) rfl hY.symm hi rfl (sm_11 22 (by decide)) (by rw [hY]; exact lf_X11_44) ho (fun _ => trivial) hx w
theorem lf_X11_47 : Cond.fieldLink RX11 47 RX11 "first" "[I" ∈ gT := gT_mem (i := 852) (by decide +kernel) (by decide +kernel)
theorem g_X11_47 {G : GT} {Y : MD} {Z : ZT} {c0 s0 n pc : Nat} {μ : Mem} {L : List (Nat × AV)} {st : List AV} {a : Int} (hY : Y.1.cls = RX11) (hd : decode Y.2.1 pc = .ok (.getfield 47, 3)) (ho : gx G n μ → 0 ≤ a ∧ a < n ∧ SH a = (11, 28)) (w : Wa G Y Z c0 s0 n μ (pc + 3) L (.inr (μ a 23) :: st)) : Wa G Y Z c0 s0 n μ pc L (.inr a :: st) :=
  a_getf (k := 23) cf_11 hd (by decide) rfl (by rw [hY]; exact lf_X11_47) ho (fun _ => w)
theorem gs_X11_47 {G : GT} {Y : MD} {Z : ZT} {c0 s0 n pc : Nat} {μ : Mem} {L : List (Nat × AV)} {st : List AV} {a : Int} (hY : Y.1.cls = RX11) (hd : decode Y.2.1 pc = .ok (.getfield 47, 3)) (hg : gx G = FX) (hs : St a 11 28) (w : Wa G Y Z c0 s0 n μ (pc + 3) L (.inr (412) :: st)) : Wa G Y Z c0 s0 n μ pc L (.inr a :: st) :=
  a_fx (fun f => g_X11_47 hY hd (St_ho hg hs) (by rw [hg] at f; rw [fx_11_23 f hs]; exact w))
theorem p_X11_47 {G : GT} {Y : MD} {Z : ZT} {c0 s0 n pc : Nat} {μ : Mem} {L : List (Nat × AV)} {st : List AV} {a v : Int} (hY : Y.1.cls = RX11) (hi : Y.1.name = "<init>") (hd : decode Y.2.1 pc = .ok (.putfield 47, 3)) (ho : gx G n μ → 0 ≤ a ∧ a < n ∧ SH a = (11, 28)) (hx : gx G n μ → gx G n (up μ a 23 v)) (w : Wa G Y Z c0 s0 n (up μ a 23 v) (pc + 3) L st) : Wa G Y Z c0 s0 n μ pc L (.inr v :: .inr a :: st) :=
  a_putF (k := 23) cf_11 hd (by decide) rfl hY.symm hi rfl (sm_11 23 (by decide)) (by rw [hY]; exact lf_X11_47) ho (fun _ => trivial) hx w
theorem lf_X11_50 : Cond.fieldLink RX11 50 RX11 "wayContact" "[I" ∈ gT := gT_mem (i := 854) (by decide +kernel) (by decide +kernel)
theorem g_X11_50 {G : GT} {Y : MD} {Z : ZT} {c0 s0 n pc : Nat} {μ : Mem} {L : List (Nat × AV)} {st : List AV} {a : Int} (hY : Y.1.cls = RX11) (hd : decode Y.2.1 pc = .ok (.getfield 50, 3)) (ho : gx G n μ → 0 ≤ a ∧ a < n ∧ SH a = (11, 28)) (w : Wa G Y Z c0 s0 n μ (pc + 3) L (.inr (μ a 25) :: st)) : Wa G Y Z c0 s0 n μ pc L (.inr a :: st) :=
  a_getf (k := 25) cf_11 hd (by decide) rfl (by rw [hY]; exact lf_X11_50) ho (fun _ => w)
theorem gs_X11_50 {G : GT} {Y : MD} {Z : ZT} {c0 s0 n pc : Nat} {μ : Mem} {L : List (Nat × AV)} {st : List AV} {a : Int} (hY : Y.1.cls = RX11) (hd : decode Y.2.1 pc = .ok (.getfield 50, 3)) (hg : gx G = FX) (hs : St a 11 28) (w : Wa G Y Z c0 s0 n μ (pc + 3) L (.inr (413) :: st)) : Wa G Y Z c0 s0 n μ pc L (.inr a :: st) :=
  a_fx (fun f => g_X11_50 hY hd (St_ho hg hs) (by rw [hg] at f; rw [fx_11_25 f hs]; exact w))
theorem p_X11_50 {G : GT} {Y : MD} {Z : ZT} {c0 s0 n pc : Nat} {μ : Mem} {L : List (Nat × AV)} {st : List AV} {a v : Int} (hY : Y.1.cls = RX11) (hi : Y.1.name = "<init>") (hd : decode Y.2.1 pc = .ok (.putfield 50, 3)) (ho : gx G n μ → 0 ≤ a ∧ a < n ∧ SH a = (11, 28)) (hx : gx G n μ → gx G n (up μ a 25 v)) (w : Wa G Y Z c0 s0 n (up μ a 25 v) (pc + 3) L st) : Wa G Y Z c0 s0 n μ pc L (.inr v :: .inr a :: st) :=
  a_putF (k := 25) cf_11 hd (by decide) rfl hY.symm hi rfl (sm_11 25 (by decide)) (by rw [hY]; exact lf_X11_50) ho (fun _ => trivial) hx w
theorem lf_X11_53 : Cond.fieldLink RX11 53 RX11 "wayBegin" "[I" ∈ gT := gT_mem (i := 855) (by decide +kernel) (by decide +kernel)
theorem g_X11_53 {G : GT} {Y : MD} {Z : ZT} {c0 s0 n pc : Nat} {μ : Mem} {L : List (Nat × AV)} {st : List AV} {a : Int} (hY : Y.1.cls = RX11) (hd : decode Y.2.1 pc = .ok (.getfield 53, 3)) (ho : gx G n μ → 0 ≤ a ∧ a < n ∧ SH a = (11, 28)) (w : Wa G Y Z c0 s0 n μ (pc + 3) L (.inr (μ a 26) :: st)) : Wa G Y Z c0 s0 n μ pc L (.inr a :: st) :=
  a_getf (k := 26) cf_11 hd (by decide) rfl (by rw [hY]; exact lf_X11_53) ho (fun _ => w)
theorem gs_X11_53 {G : GT} {Y : MD} {Z : ZT} {c0 s0 n pc : Nat} {μ : Mem} {L : List (Nat × AV)} {st : List AV} {a : Int} (hY : Y.1.cls = RX11) (hd : decode Y.2.1 pc = .ok (.getfield 53, 3)) (hg : gx G = FX) (hs : St a 11 28) (w : Wa G Y Z c0 s0 n μ (pc + 3) L (.inr (414) :: st)) : Wa G Y Z c0 s0 n μ pc L (.inr a :: st) :=
  a_fx (fun f => g_X11_53 hY hd (St_ho hg hs) (by rw [hg] at f; rw [fx_11_26 f hs]; exact w))
theorem p_X11_53 {G : GT} {Y : MD} {Z : ZT} {c0 s0 n pc : Nat} {μ : Mem} {L : List (Nat × AV)} {st : List AV} {a v : Int} (hY : Y.1.cls = RX11) (hi : Y.1.name = "<init>") (hd : decode Y.2.1 pc = .ok (.putfield 53, 3)) (ho : gx G n μ → 0 ≤ a ∧ a < n ∧ SH a = (11, 28)) (hx : gx G n μ → gx G n (up μ a 26 v)) (w : Wa G Y Z c0 s0 n (up μ a 26 v) (pc + 3) L st) : Wa G Y Z c0 s0 n μ pc L (.inr v :: .inr a :: st) :=
  a_putF (k := 26) cf_11 hd (by decide) rfl hY.symm hi rfl (sm_11 26 (by decide)) (by rw [hY]; exact lf_X11_53) ho (fun _ => trivial) hx w
theorem lf_X11_62 : Cond.fieldLink RX11 62 RX11 "thrown" "I" ∈ gT := gT_mem (i := 829) (by decide +kernel) (by decide +kernel)
theorem p_X11_62 {G : GT} {Y : MD} {Z : ZT} {c0 s0 n pc : Nat} {μ : Mem} {L : List (Nat × AV)} {st : List AV} {a v : Int} (hY : Y.1.cls = RX11) (hd : decode Y.2.1 pc = .ok (.putfield 62, 3)) (ho : gx G n μ → 0 ≤ a ∧ a < n ∧ SH a = (11, 28)) (hx : gx G n μ → gx G n (up μ a 0 v)) (w : Wa G Y Z c0 s0 n (up μ a 0 v) (pc + 3) L st) : Wa G Y Z c0 s0 n μ pc L (.inl v :: .inr a :: st) :=
  a_putf (k := 0) cf_11 hd (by decide) rfl rfl (sm_11 0 (by decide)) (by rw [hY]; exact lf_X11_62) ho (fun h => h) hx w
theorem lf_X11_66 : Cond.fieldLink RX11 66 RX11 "nodes" "I" ∈ gT := gT_mem (i := 830) (by decide +kernel) (by decide +kernel)
theorem g_X11_66 {G : GT} {Y : MD} {Z : ZT} {c0 s0 n pc : Nat} {μ : Mem} {L : List (Nat × AV)} {st : List AV} {a : Int} (hY : Y.1.cls = RX11) (hd : decode Y.2.1 pc = .ok (.getfield 66, 3)) (ho : gx G n μ → 0 ≤ a ∧ a < n ∧ SH a = (11, 28)) (w : Wa G Y Z c0 s0 n μ (pc + 3) L (.inl (μ a 1) :: st)) : Wa G Y Z c0 s0 n μ pc L (.inr a :: st) :=
  a_getf (k := 1) cf_11 hd (by decide) rfl (by rw [hY]; exact lf_X11_66) ho (fun _ => w)
theorem p_X11_66 {G : GT} {Y : MD} {Z : ZT} {c0 s0 n pc : Nat} {μ : Mem} {L : List (Nat × AV)} {st : List AV} {a v : Int} (hY : Y.1.cls = RX11) (hd : decode Y.2.1 pc = .ok (.putfield 66, 3)) (ho : gx G n μ → 0 ≤ a ∧ a < n ∧ SH a = (11, 28)) (hx : gx G n μ → gx G n (up μ a 1 v)) (w : Wa G Y Z c0 s0 n (up μ a 1 v) (pc + 3) L st) : Wa G Y Z c0 s0 n μ pc L (.inl v :: .inr a :: st) :=
  a_putf (k := 1) cf_11 hd (by decide) rfl rfl (sm_11 1 (by decide)) (by rw [hY]; exact lf_X11_66) ho (fun h => h) hx w
theorem lf_X11_73 : Cond.fieldLink RX11 73 RX11 "contacts" "I" ∈ gT := gT_mem (i := 831) (by decide +kernel) (by decide +kernel)
theorem g_X11_73 {G : GT} {Y : MD} {Z : ZT} {c0 s0 n pc : Nat} {μ : Mem} {L : List (Nat × AV)} {st : List AV} {a : Int} (hY : Y.1.cls = RX11) (hd : decode Y.2.1 pc = .ok (.getfield 73, 3)) (ho : gx G n μ → 0 ≤ a ∧ a < n ∧ SH a = (11, 28)) (w : Wa G Y Z c0 s0 n μ (pc + 3) L (.inl (μ a 2) :: st)) : Wa G Y Z c0 s0 n μ pc L (.inr a :: st) :=
  a_getf (k := 2) cf_11 hd (by decide) rfl (by rw [hY]; exact lf_X11_73) ho (fun _ => w)
theorem p_X11_73 {G : GT} {Y : MD} {Z : ZT} {c0 s0 n pc : Nat} {μ : Mem} {L : List (Nat × AV)} {st : List AV} {a v : Int} (hY : Y.1.cls = RX11) (hd : decode Y.2.1 pc = .ok (.putfield 73, 3)) (ho : gx G n μ → 0 ≤ a ∧ a < n ∧ SH a = (11, 28)) (hx : gx G n μ → gx G n (up μ a 2 v)) (w : Wa G Y Z c0 s0 n (up μ a 2 v) (pc + 3) L st) : Wa G Y Z c0 s0 n μ pc L (.inl v :: .inr a :: st) :=
  a_putf (k := 2) cf_11 hd (by decide) rfl rfl (sm_11 2 (by decide)) (by rw [hY]; exact lf_X11_73) ho (fun h => h) hx w
theorem lf_X11_76 : Cond.fieldLink RX11 76 RX11 "letters" "I" ∈ gT := gT_mem (i := 846) (by decide +kernel) (by decide +kernel)
theorem g_X11_76 {G : GT} {Y : MD} {Z : ZT} {c0 s0 n pc : Nat} {μ : Mem} {L : List (Nat × AV)} {st : List AV} {a : Int} (hY : Y.1.cls = RX11) (hd : decode Y.2.1 pc = .ok (.getfield 76, 3)) (ho : gx G n μ → 0 ≤ a ∧ a < n ∧ SH a = (11, 28)) (w : Wa G Y Z c0 s0 n μ (pc + 3) L (.inl (μ a 17) :: st)) : Wa G Y Z c0 s0 n μ pc L (.inr a :: st) :=
  a_getf (k := 17) cf_11 hd (by decide) rfl (by rw [hY]; exact lf_X11_76) ho (fun _ => w)
theorem p_X11_76 {G : GT} {Y : MD} {Z : ZT} {c0 s0 n pc : Nat} {μ : Mem} {L : List (Nat × AV)} {st : List AV} {a v : Int} (hY : Y.1.cls = RX11) (hd : decode Y.2.1 pc = .ok (.putfield 76, 3)) (ho : gx G n μ → 0 ≤ a ∧ a < n ∧ SH a = (11, 28)) (hx : gx G n μ → gx G n (up μ a 17 v)) (w : Wa G Y Z c0 s0 n (up μ a 17 v) (pc + 3) L st) : Wa G Y Z c0 s0 n μ pc L (.inl v :: .inr a :: st) :=
  a_putf (k := 17) cf_11 hd (by decide) rfl rfl (sm_11 17 (by decide)) (by rw [hY]; exact lf_X11_76) ho (fun h => h) hx w
theorem lf_X11_79 : Cond.fieldLink RX11 79 RX11 "next" "I" ∈ gT := gT_mem (i := 848) (by decide +kernel) (by decide +kernel)
theorem g_X11_79 {G : GT} {Y : MD} {Z : ZT} {c0 s0 n pc : Nat} {μ : Mem} {L : List (Nat × AV)} {st : List AV} {a : Int} (hY : Y.1.cls = RX11) (hd : decode Y.2.1 pc = .ok (.getfield 79, 3)) (ho : gx G n μ → 0 ≤ a ∧ a < n ∧ SH a = (11, 28)) (w : Wa G Y Z c0 s0 n μ (pc + 3) L (.inl (μ a 19) :: st)) : Wa G Y Z c0 s0 n μ pc L (.inr a :: st) :=
  a_getf (k := 19) cf_11 hd (by decide) rfl (by rw [hY]; exact lf_X11_79) ho (fun _ => w)
theorem p_X11_79 {G : GT} {Y : MD} {Z : ZT} {c0 s0 n pc : Nat} {μ : Mem} {L : List (Nat × AV)} {st : List AV} {a v : Int} (hY : Y.1.cls = RX11) (hd : decode Y.2.1 pc = .ok (.putfield 79, 3)) (ho : gx G n μ → 0 ≤ a ∧ a < n ∧ SH a = (11, 28)) (hx : gx G n μ → gx G n (up μ a 19 v)) (w : Wa G Y Z c0 s0 n (up μ a 19 v) (pc + 3) L st) : Wa G Y Z c0 s0 n μ pc L (.inl v :: .inr a :: st) :=
  a_putf (k := 19) cf_11 hd (by decide) rfl rfl (sm_11 19 (by decide)) (by rw [hY]; exact lf_X11_79) ho (fun h => h) hx w
theorem lf_X11_82 : Cond.fieldLink RX11 82 RX11 "begin" "I" ∈ gT := gT_mem (i := 849) (by decide +kernel) (by decide +kernel)
theorem g_X11_82 {G : GT} {Y : MD} {Z : ZT} {c0 s0 n pc : Nat} {μ : Mem} {L : List (Nat × AV)} {st : List AV} {a : Int} (hY : Y.1.cls = RX11) (hd : decode Y.2.1 pc = .ok (.getfield 82, 3)) (ho : gx G n μ → 0 ≤ a ∧ a < n ∧ SH a = (11, 28)) (w : Wa G Y Z c0 s0 n μ (pc + 3) L (.inl (μ a 20) :: st)) : Wa G Y Z c0 s0 n μ pc L (.inr a :: st) :=
  a_getf (k := 20) cf_11 hd (by decide) rfl (by rw [hY]; exact lf_X11_82) ho (fun _ => w)
theorem p_X11_82 {G : GT} {Y : MD} {Z : ZT} {c0 s0 n pc : Nat} {μ : Mem} {L : List (Nat × AV)} {st : List AV} {a v : Int} (hY : Y.1.cls = RX11) (hd : decode Y.2.1 pc = .ok (.putfield 82, 3)) (ho : gx G n μ → 0 ≤ a ∧ a < n ∧ SH a = (11, 28)) (hx : gx G n μ → gx G n (up μ a 20 v)) (w : Wa G Y Z c0 s0 n (up μ a 20 v) (pc + 3) L st) : Wa G Y Z c0 s0 n μ pc L (.inl v :: .inr a :: st) :=
  a_putf (k := 20) cf_11 hd (by decide) rfl rfl (sm_11 20 (by decide)) (by rw [hY]; exact lf_X11_82) ho (fun h => h) hx w
theorem lf_X11_85 : Cond.fieldLink RX11 85 RX11 "token" "I" ∈ gT := gT_mem (i := 850) (by decide +kernel) (by decide +kernel)
theorem g_X11_85 {G : GT} {Y : MD} {Z : ZT} {c0 s0 n pc : Nat} {μ : Mem} {L : List (Nat × AV)} {st : List AV} {a : Int} (hY : Y.1.cls = RX11) (hd : decode Y.2.1 pc = .ok (.getfield 85, 3)) (ho : gx G n μ → 0 ≤ a ∧ a < n ∧ SH a = (11, 28)) (w : Wa G Y Z c0 s0 n μ (pc + 3) L (.inl (μ a 21) :: st)) : Wa G Y Z c0 s0 n μ pc L (.inr a :: st) :=
  a_getf (k := 21) cf_11 hd (by decide) rfl (by rw [hY]; exact lf_X11_85) ho (fun _ => w)
theorem p_X11_85 {G : GT} {Y : MD} {Z : ZT} {c0 s0 n pc : Nat} {μ : Mem} {L : List (Nat × AV)} {st : List AV} {a v : Int} (hY : Y.1.cls = RX11) (hd : decode Y.2.1 pc = .ok (.putfield 85, 3)) (ho : gx G n μ → 0 ≤ a ∧ a < n ∧ SH a = (11, 28)) (hx : gx G n μ → gx G n (up μ a 21 v)) (w : Wa G Y Z c0 s0 n (up μ a 21 v) (pc + 3) L st) : Wa G Y Z c0 s0 n μ pc L (.inl v :: .inr a :: st) :=
  a_putf (k := 21) cf_11 hd (by decide) rfl rfl (sm_11 21 (by decide)) (by rw [hY]; exact lf_X11_85) ho (fun h => h) hx w
theorem lf_X11_95 : Cond.fieldLink RX11 95 RX11 "readContacts" "I" ∈ gT := gT_mem (i := 834) (by decide +kernel) (by decide +kernel)
theorem g_X11_95 {G : GT} {Y : MD} {Z : ZT} {c0 s0 n pc : Nat} {μ : Mem} {L : List (Nat × AV)} {st : List AV} {a : Int} (hY : Y.1.cls = RX11) (hd : decode Y.2.1 pc = .ok (.getfield 95, 3)) (ho : gx G n μ → 0 ≤ a ∧ a < n ∧ SH a = (11, 28)) (w : Wa G Y Z c0 s0 n μ (pc + 3) L (.inl (μ a 5) :: st)) : Wa G Y Z c0 s0 n μ pc L (.inr a :: st) :=
  a_getf (k := 5) cf_11 hd (by decide) rfl (by rw [hY]; exact lf_X11_95) ho (fun _ => w)
theorem p_X11_95 {G : GT} {Y : MD} {Z : ZT} {c0 s0 n pc : Nat} {μ : Mem} {L : List (Nat × AV)} {st : List AV} {a v : Int} (hY : Y.1.cls = RX11) (hd : decode Y.2.1 pc = .ok (.putfield 95, 3)) (ho : gx G n μ → 0 ≤ a ∧ a < n ∧ SH a = (11, 28)) (hx : gx G n μ → gx G n (up μ a 5 v)) (w : Wa G Y Z c0 s0 n (up μ a 5 v) (pc + 3) L st) : Wa G Y Z c0 s0 n μ pc L (.inl v :: .inr a :: st) :=
  a_putf (k := 5) cf_11 hd (by decide) rfl rfl (sm_11 5 (by decide)) (by rw [hY]; exact lf_X11_95) ho (fun h => h) hx w
theorem lf_X11_98 : Cond.fieldLink RX11 98 RX11 "readNodes" "I" ∈ gT := gT_mem (i := 833) (by decide +kernel) (by decide +kernel)
theorem g_X11_98 {G : GT} {Y : MD} {Z : ZT} {c0 s0 n pc : Nat} {μ : Mem} {L : List (Nat × AV)} {st : List AV} {a : Int} (hY : Y.1.cls = RX11) (hd : decode Y.2.1 pc = .ok (.getfield 98, 3)) (ho : gx G n μ → 0 ≤ a ∧ a < n ∧ SH a = (11, 28)) (w : Wa G Y Z c0 s0 n μ (pc + 3) L (.inl (μ a 4) :: st)) : Wa G Y Z c0 s0 n μ pc L (.inr a :: st) :=
  a_getf (k := 4) cf_11 hd (by decide) rfl (by rw [hY]; exact lf_X11_98) ho (fun _ => w)
theorem p_X11_98 {G : GT} {Y : MD} {Z : ZT} {c0 s0 n pc : Nat} {μ : Mem} {L : List (Nat × AV)} {st : List AV} {a v : Int} (hY : Y.1.cls = RX11) (hd : decode Y.2.1 pc = .ok (.putfield 98, 3)) (ho : gx G n μ → 0 ≤ a ∧ a < n ∧ SH a = (11, 28)) (hx : gx G n μ → gx G n (up μ a 4 v)) (w : Wa G Y Z c0 s0 n (up μ a 4 v) (pc + 3) L st) : Wa G Y Z c0 s0 n μ pc L (.inl v :: .inr a :: st) :=
  a_putf (k := 4) cf_11 hd (by decide) rfl rfl (sm_11 4 (by decide)) (by rw [hY]; exact lf_X11_98) ho (fun h => h) hx w
theorem lf_X11_104 : Cond.fieldLink RX11 104 RX11 "undos" "I" ∈ gT := gT_mem (i := 837) (by decide +kernel) (by decide +kernel)
theorem g_X11_104 {G : GT} {Y : MD} {Z : ZT} {c0 s0 n pc : Nat} {μ : Mem} {L : List (Nat × AV)} {st : List AV} {a : Int} (hY : Y.1.cls = RX11) (hd : decode Y.2.1 pc = .ok (.getfield 104, 3)) (ho : gx G n μ → 0 ≤ a ∧ a < n ∧ SH a = (11, 28)) (w : Wa G Y Z c0 s0 n μ (pc + 3) L (.inl (μ a 8) :: st)) : Wa G Y Z c0 s0 n μ pc L (.inr a :: st) :=
  a_getf (k := 8) cf_11 hd (by decide) rfl (by rw [hY]; exact lf_X11_104) ho (fun _ => w)
theorem p_X11_104 {G : GT} {Y : MD} {Z : ZT} {c0 s0 n pc : Nat} {μ : Mem} {L : List (Nat × AV)} {st : List AV} {a v : Int} (hY : Y.1.cls = RX11) (hd : decode Y.2.1 pc = .ok (.putfield 104, 3)) (ho : gx G n μ → 0 ≤ a ∧ a < n ∧ SH a = (11, 28)) (hx : gx G n μ → gx G n (up μ a 8 v)) (w : Wa G Y Z c0 s0 n (up μ a 8 v) (pc + 3) L st) : Wa G Y Z c0 s0 n μ pc L (.inl v :: .inr a :: st) :=
  a_putf (k := 8) cf_11 hd (by decide) rfl rfl (sm_11 8 (by decide)) (by rw [hY]; exact lf_X11_104) ho (fun h => h) hx w
theorem lf_X11_107 : Cond.fieldLink RX11 107 RX11 "seen" "I" ∈ gT := gT_mem (i := 842) (by decide +kernel) (by decide +kernel)
theorem g_X11_107 {G : GT} {Y : MD} {Z : ZT} {c0 s0 n pc : Nat} {μ : Mem} {L : List (Nat × AV)} {st : List AV} {a : Int} (hY : Y.1.cls = RX11) (hd : decode Y.2.1 pc = .ok (.getfield 107, 3)) (ho : gx G n μ → 0 ≤ a ∧ a < n ∧ SH a = (11, 28)) (w : Wa G Y Z c0 s0 n μ (pc + 3) L (.inl (μ a 13) :: st)) : Wa G Y Z c0 s0 n μ pc L (.inr a :: st) :=
  a_getf (k := 13) cf_11 hd (by decide) rfl (by rw [hY]; exact lf_X11_107) ho (fun _ => w)
theorem p_X11_107 {G : GT} {Y : MD} {Z : ZT} {c0 s0 n pc : Nat} {μ : Mem} {L : List (Nat × AV)} {st : List AV} {a v : Int} (hY : Y.1.cls = RX11) (hd : decode Y.2.1 pc = .ok (.putfield 107, 3)) (ho : gx G n μ → 0 ≤ a ∧ a < n ∧ SH a = (11, 28)) (hx : gx G n μ → gx G n (up μ a 13 v)) (w : Wa G Y Z c0 s0 n (up μ a 13 v) (pc + 3) L st) : Wa G Y Z c0 s0 n μ pc L (.inl v :: .inr a :: st) :=
  a_putf (k := 13) cf_11 hd (by decide) rfl rfl (sm_11 13 (by decide)) (by rw [hY]; exact lf_X11_107) ho (fun h => h) hx w
theorem lf_X11_158 : Cond.fieldLink RX11 158 RX11 "wayEnd" "I" ∈ gT := gT_mem (i := 856) (by decide +kernel) (by decide +kernel)
theorem g_X11_158 {G : GT} {Y : MD} {Z : ZT} {c0 s0 n pc : Nat} {μ : Mem} {L : List (Nat × AV)} {st : List AV} {a : Int} (hY : Y.1.cls = RX11) (hd : decode Y.2.1 pc = .ok (.getfield 158, 3)) (ho : gx G n μ → 0 ≤ a ∧ a < n ∧ SH a = (11, 28)) (w : Wa G Y Z c0 s0 n μ (pc + 3) L (.inl (μ a 27) :: st)) : Wa G Y Z c0 s0 n μ pc L (.inr a :: st) :=
  a_getf (k := 27) cf_11 hd (by decide) rfl (by rw [hY]; exact lf_X11_158) ho (fun _ => w)
theorem p_X11_158 {G : GT} {Y : MD} {Z : ZT} {c0 s0 n pc : Nat} {μ : Mem} {L : List (Nat × AV)} {st : List AV} {a v : Int} (hY : Y.1.cls = RX11) (hd : decode Y.2.1 pc = .ok (.putfield 158, 3)) (ho : gx G n μ → 0 ≤ a ∧ a < n ∧ SH a = (11, 28)) (hx : gx G n μ → gx G n (up μ a 27 v)) (w : Wa G Y Z c0 s0 n (up μ a 27 v) (pc + 3) L st) : Wa G Y Z c0 s0 n μ pc L (.inl v :: .inr a :: st) :=
  a_putf (k := 27) cf_11 hd (by decide) rfl rfl (sm_11 27 (by decide)) (by rw [hY]; exact lf_X11_158) ho (fun h => h) hx w
theorem lf_X11_161 : Cond.fieldLink RX11 161 RX11 "wayMany" "I" ∈ gT := gT_mem (i := 853) (by decide +kernel) (by decide +kernel)
theorem g_X11_161 {G : GT} {Y : MD} {Z : ZT} {c0 s0 n pc : Nat} {μ : Mem} {L : List (Nat × AV)} {st : List AV} {a : Int} (hY : Y.1.cls = RX11) (hd : decode Y.2.1 pc = .ok (.getfield 161, 3)) (ho : gx G n μ → 0 ≤ a ∧ a < n ∧ SH a = (11, 28)) (w : Wa G Y Z c0 s0 n μ (pc + 3) L (.inl (μ a 24) :: st)) : Wa G Y Z c0 s0 n μ pc L (.inr a :: st) :=
  a_getf (k := 24) cf_11 hd (by decide) rfl (by rw [hY]; exact lf_X11_161) ho (fun _ => w)
theorem p_X11_161 {G : GT} {Y : MD} {Z : ZT} {c0 s0 n pc : Nat} {μ : Mem} {L : List (Nat × AV)} {st : List AV} {a v : Int} (hY : Y.1.cls = RX11) (hd : decode Y.2.1 pc = .ok (.putfield 161, 3)) (ho : gx G n μ → 0 ≤ a ∧ a < n ∧ SH a = (11, 28)) (hx : gx G n μ → gx G n (up μ a 24 v)) (w : Wa G Y Z c0 s0 n (up μ a 24 v) (pc + 3) L st) : Wa G Y Z c0 s0 n μ pc L (.inl v :: .inr a :: st) :=
  a_putf (k := 24) cf_11 hd (by decide) rfl rfl (sm_11 24 (by decide)) (by rw [hY]; exact lf_X11_161) ho (fun h => h) hx w
theorem lc_X10_9 : Cond.classLink RX10 9 RX9 ∈ gT := gT_mem (i := 83) (by decide +kernel) (by decide +kernel)
theorem n_X10_9 {G : GT} {Y : MD} {Z : ZT} {c0 s0 n pc : Nat} {μ : Mem} {L : List (Nat × AV)} {st : List AV} (hY : Y.1.cls = RX10) (hd : decode Y.2.1 pc = .ok (.new 9, 3)) (hsh : SH (n : Int) = (9, 2)) (hc : c0 + 1 ≤ Y.2.2.2.2.2.2.1) (hs : s0 + 2 ≤ Y.2.2.2.2.2.2.2) (hx : gx G n μ → gx G (n + 1) (nw μ n (objD 9))) (w : Wa G Y Z (c0 + 1) (s0 + 2) (n + 1) (nw μ n (objD 9)) (pc + 3) L (.inr n :: st)) : Wa G Y Z c0 s0 n μ pc L st :=
  a_new cf_9 sm_9 hd (by rw [hY]; exact lc_X10_9) ab_9 in_9 hsh hc hs hx w
theorem lc_X10_16 : Cond.classLink RX10 16 RX4 ∈ gT := gT_mem (i := 99) (by decide +kernel) (by decide +kernel)
theorem n_X10_16 {G : GT} {Y : MD} {Z : ZT} {c0 s0 n pc : Nat} {μ : Mem} {L : List (Nat × AV)} {st : List AV} (hY : Y.1.cls = RX10) (hd : decode Y.2.1 pc = .ok (.new 16, 3)) (hsh : SH (n : Int) = (4, 4)) (hc : c0 + 1 ≤ Y.2.2.2.2.2.2.1) (hs : s0 + 4 ≤ Y.2.2.2.2.2.2.2) (hx : gx G n μ → gx G (n + 1) (nw μ n (objD 4))) (w : Wa G Y Z (c0 + 1) (s0 + 4) (n + 1) (nw μ n (objD 4)) (pc + 3) L (.inr n :: st)) : Wa G Y Z c0 s0 n μ pc L st :=
  a_new cf_4 sm_4 hd (by rw [hY]; exact lc_X10_16) ab_4 in_4 hsh hc hs hx w
theorem lc_X10_25 : Cond.classLink RX10 25 RX3 ∈ gT := gT_mem (i := 174) (by decide +kernel) (by decide +kernel)
theorem n_X10_25 {G : GT} {Y : MD} {Z : ZT} {c0 s0 n pc : Nat} {μ : Mem} {L : List (Nat × AV)} {st : List AV} (hY : Y.1.cls = RX10) (hd : decode Y.2.1 pc = .ok (.new 25, 3)) (hsh : SH (n : Int) = (3, 4)) (hc : c0 + 1 ≤ Y.2.2.2.2.2.2.1) (hs : s0 + 4 ≤ Y.2.2.2.2.2.2.2) (hx : gx G n μ → gx G (n + 1) (nw μ n (objD 3))) (w : Wa G Y Z (c0 + 1) (s0 + 4) (n + 1) (nw μ n (objD 3)) (pc + 3) L (.inr n :: st)) : Wa G Y Z c0 s0 n μ pc L st :=
  a_new cf_3 sm_3 hd (by rw [hY]; exact lc_X10_25) ab_3 in_3 hsh hc hs hx w
theorem lc_X10_32 : Cond.classLink RX10 32 RX6 ∈ gT := gT_mem (i := 176) (by decide +kernel) (by decide +kernel)
theorem n_X10_32 {G : GT} {Y : MD} {Z : ZT} {c0 s0 n pc : Nat} {μ : Mem} {L : List (Nat × AV)} {st : List AV} (hY : Y.1.cls = RX10) (hd : decode Y.2.1 pc = .ok (.new 32, 3)) (hsh : SH (n : Int) = (6, 8)) (hc : c0 + 1 ≤ Y.2.2.2.2.2.2.1) (hs : s0 + 8 ≤ Y.2.2.2.2.2.2.2) (hx : gx G n μ → gx G (n + 1) (nw μ n (objD 6))) (w : Wa G Y Z (c0 + 1) (s0 + 8) (n + 1) (nw μ n (objD 6)) (pc + 3) L (.inr n :: st)) : Wa G Y Z c0 s0 n μ pc L st :=
  a_new cf_6 sm_6 hd (by rw [hY]; exact lc_X10_32) ab_6 in_6 hsh hc hs hx w
theorem lc_X10_41 : Cond.classLink RX10 41 RX5 ∈ gT := gT_mem (i := 231) (by decide +kernel) (by decide +kernel)
theorem n_X10_41 {G : GT} {Y : MD} {Z : ZT} {c0 s0 n pc : Nat} {μ : Mem} {L : List (Nat × AV)} {st : List AV} (hY : Y.1.cls = RX10) (hd : decode Y.2.1 pc = .ok (.new 41, 3)) (hsh : SH (n : Int) = (5, 1)) (hc : c0 + 1 ≤ Y.2.2.2.2.2.2.1) (hs : s0 + 1 ≤ Y.2.2.2.2.2.2.2) (hx : gx G n μ → gx G (n + 1) (nw μ n (objD 5))) (w : Wa G Y Z (c0 + 1) (s0 + 1) (n + 1) (nw μ n (objD 5)) (pc + 3) L (.inr n :: st)) : Wa G Y Z c0 s0 n μ pc L st :=
  a_new cf_5 sm_5 hd (by rw [hY]; exact lc_X10_41) ab_5 in_5 hsh hc hs hx w
theorem lc_X10_50 : Cond.classLink RX10 50 RX7 ∈ gT := gT_mem (i := 241) (by decide +kernel) (by decide +kernel)
theorem n_X10_50 {G : GT} {Y : MD} {Z : ZT} {c0 s0 n pc : Nat} {μ : Mem} {L : List (Nat × AV)} {st : List AV} (hY : Y.1.cls = RX10) (hd : decode Y.2.1 pc = .ok (.new 50, 3)) (hsh : SH (n : Int) = (7, 5)) (hc : c0 + 1 ≤ Y.2.2.2.2.2.2.1) (hs : s0 + 5 ≤ Y.2.2.2.2.2.2.2) (hx : gx G n μ → gx G (n + 1) (nw μ n (objD 7))) (w : Wa G Y Z (c0 + 1) (s0 + 5) (n + 1) (nw μ n (objD 7)) (pc + 3) L (.inr n :: st)) : Wa G Y Z c0 s0 n μ pc L st :=
  a_new cf_7 sm_7 hd (by rw [hY]; exact lc_X10_50) ab_7 in_7 hsh hc hs hx w
theorem lc_X10_60 : Cond.classLink RX10 60 RX2 ∈ gT := gT_mem (i := 315) (by decide +kernel) (by decide +kernel)
theorem n_X10_60 {G : GT} {Y : MD} {Z : ZT} {c0 s0 n pc : Nat} {μ : Mem} {L : List (Nat × AV)} {st : List AV} (hY : Y.1.cls = RX10) (hd : decode Y.2.1 pc = .ok (.new 60, 3)) (hsh : SH (n : Int) = (2, 4)) (hc : c0 + 1 ≤ Y.2.2.2.2.2.2.1) (hs : s0 + 4 ≤ Y.2.2.2.2.2.2.2) (hx : gx G n μ → gx G (n + 1) (nw μ n (objD 2))) (w : Wa G Y Z (c0 + 1) (s0 + 4) (n + 1) (nw μ n (objD 2)) (pc + 3) L (.inr n :: st)) : Wa G Y Z c0 s0 n μ pc L st :=
  a_new cf_2 sm_2 hd (by rw [hY]; exact lc_X10_60) ab_2 in_2 hsh hc hs hx w
theorem lc_X10_73 : Cond.classLink RX10 73 RX8 ∈ gT := gT_mem (i := 338) (by decide +kernel) (by decide +kernel)
theorem n_X10_73 {G : GT} {Y : MD} {Z : ZT} {c0 s0 n pc : Nat} {μ : Mem} {L : List (Nat × AV)} {st : List AV} (hY : Y.1.cls = RX10) (hd : decode Y.2.1 pc = .ok (.new 73, 3)) (hsh : SH (n : Int) = (8, 3)) (hc : c0 + 1 ≤ Y.2.2.2.2.2.2.1) (hs : s0 + 3 ≤ Y.2.2.2.2.2.2.2) (hx : gx G n μ → gx G (n + 1) (nw μ n (objD 8))) (w : Wa G Y Z (c0 + 1) (s0 + 3) (n + 1) (nw μ n (objD 8)) (pc + 3) L (.inr n :: st)) : Wa G Y Z c0 s0 n μ pc L st :=
  a_new cf_8 sm_8 hd (by rw [hY]; exact lc_X10_73) ab_8 in_8 hsh hc hs hx w
theorem lc_X0_15 : Cond.classLink RX0 15 RX8 ∈ gT := gT_mem (i := 253) (by decide +kernel) (by decide +kernel)
theorem n_X0_15 {G : GT} {Y : MD} {Z : ZT} {c0 s0 n pc : Nat} {μ : Mem} {L : List (Nat × AV)} {st : List AV} (hY : Y.1.cls = RX0) (hd : decode Y.2.1 pc = .ok (.new 15, 3)) (hsh : SH (n : Int) = (8, 3)) (hc : c0 + 1 ≤ Y.2.2.2.2.2.2.1) (hs : s0 + 3 ≤ Y.2.2.2.2.2.2.2) (hx : gx G n μ → gx G (n + 1) (nw μ n (objD 8))) (w : Wa G Y Z (c0 + 1) (s0 + 3) (n + 1) (nw μ n (objD 8)) (pc + 3) L (.inr n :: st)) : Wa G Y Z c0 s0 n μ pc L st :=
  a_new cf_8 sm_8 hd (by rw [hY]; exact lc_X0_15) ab_8 in_8 hsh hc hs hx w
theorem lc_X2_9 : Cond.classLink RX2 9 RX7 ∈ gT := gT_mem (i := 321) (by decide +kernel) (by decide +kernel)
theorem na_X2_9 {G : GT} {Y : MD} {Z : ZT} {c0 s0 n pc : Nat} {μ : Mem} {L : List (Nat × AV)} {st : List AV} {N : Nat} (hY : Y.1.cls = RX2) (hd : decode Y.2.1 pc = .ok (.anewarray 9, 3)) (hN : N < 1000000) (hsh : SH (n : Int) = (24, N)) (hc : c0 + 1 ≤ Y.2.2.2.2.2.2.1) (hs : s0 + N ≤ Y.2.2.2.2.2.2.2) (hx : gx G n μ → gx G (n + 1) (nw μ n nullD)) (w : Wa G Y Z (c0 + 1) (s0 + N) (n + 1) (nw μ n nullD) (pc + 3) L (.inr n :: st)) : Wa G Y Z c0 s0 n μ pc L (.inl N :: st) :=
  a_newref (kd := 24) (t0 := 4) (C := RX7) hd (by decide) rfl (by rw [hY]; exact lc_X2_9) (fun U h => h.2.2.2.2) hN hsh hc hs hx w
theorem n_X2_9 {G : GT} {Y : MD} {Z : ZT} {c0 s0 n pc : Nat} {μ : Mem} {L : List (Nat × AV)} {st : List AV} (hY : Y.1.cls = RX2) (hd : decode Y.2.1 pc = .ok (.new 9, 3)) (hsh : SH (n : Int) = (7, 5)) (hc : c0 + 1 ≤ Y.2.2.2.2.2.2.1) (hs : s0 + 5 ≤ Y.2.2.2.2.2.2.2) (hx : gx G n μ → gx G (n + 1) (nw μ n (objD 7))) (w : Wa G Y Z (c0 + 1) (s0 + 5) (n + 1) (nw μ n (objD 7)) (pc + 3) L (.inr n :: st)) : Wa G Y Z c0 s0 n μ pc L st :=
  a_new cf_7 sm_7 hd (by rw [hY]; exact lc_X2_9) ab_7 in_7 hsh hc hs hx w
theorem lc_X3_9 : Cond.classLink RX3 9 RX1 ∈ gT := gT_mem (i := 111) (by decide +kernel) (by decide +kernel)
theorem na_X3_9 {G : GT} {Y : MD} {Z : ZT} {c0 s0 n pc : Nat} {μ : Mem} {L : List (Nat × AV)} {st : List AV} {N : Nat} (hY : Y.1.cls = RX3) (hd : decode Y.2.1 pc = .ok (.anewarray 9, 3)) (hN : N < 1000000) (hsh : SH (n : Int) = (23, N)) (hc : c0 + 1 ≤ Y.2.2.2.2.2.2.1) (hs : s0 + N ≤ Y.2.2.2.2.2.2.2) (hx : gx G n μ → gx G (n + 1) (nw μ n nullD)) (w : Wa G Y Z (c0 + 1) (s0 + N) (n + 1) (nw μ n nullD) (pc + 3) L (.inr n :: st)) : Wa G Y Z c0 s0 n μ pc L (.inl N :: st) :=
  a_newref (kd := 23) (t0 := 3) (C := RX1) hd (by decide) rfl (by rw [hY]; exact lc_X3_9) (fun U h => h.2.2.2.1) hN hsh hc hs hx w
theorem n_X3_9 {G : GT} {Y : MD} {Z : ZT} {c0 s0 n pc : Nat} {μ : Mem} {L : List (Nat × AV)} {st : List AV} (hY : Y.1.cls = RX3) (hd : decode Y.2.1 pc = .ok (.new 9, 3)) (hsh : SH (n : Int) = (1, 6)) (hc : c0 + 1 ≤ Y.2.2.2.2.2.2.1) (hs : s0 + 6 ≤ Y.2.2.2.2.2.2.2) (hx : gx G n μ → gx G (n + 1) (nw μ n (objD 1))) (w : Wa G Y Z (c0 + 1) (s0 + 6) (n + 1) (nw μ n (objD 1)) (pc + 3) L (.inr n :: st)) : Wa G Y Z c0 s0 n μ pc L st :=
  a_new cf_1 sm_1 hd (by rw [hY]; exact lc_X3_9) ab_1 in_1 hsh hc hs hx w
theorem lc_X4_15 : Cond.classLink RX4 15 RX3 ∈ gT := gT_mem (i := 105) (by decide +kernel) (by decide +kernel)
theorem n_X4_15 {G : GT} {Y : MD} {Z : ZT} {c0 s0 n pc : Nat} {μ : Mem} {L : List (Nat × AV)} {st : List AV} (hY : Y.1.cls = RX4) (hd : decode Y.2.1 pc = .ok (.new 15, 3)) (hsh : SH (n : Int) = (3, 4)) (hc : c0 + 1 ≤ Y.2.2.2.2.2.2.1) (hs : s0 + 4 ≤ Y.2.2.2.2.2.2.2) (hx : gx G n μ → gx G (n + 1) (nw μ n (objD 3))) (w : Wa G Y Z (c0 + 1) (s0 + 4) (n + 1) (nw μ n (objD 3)) (pc + 3) L (.inr n :: st)) : Wa G Y Z c0 s0 n μ pc L st :=
  a_new cf_3 sm_3 hd (by rw [hY]; exact lc_X4_15) ab_3 in_3 hsh hc hs hx w
theorem lc_X4_72 : Cond.classLink RX4 72 RX1 ∈ gT := gT_mem (i := 455) (by decide +kernel) (by decide +kernel)
theorem n_X4_72 {G : GT} {Y : MD} {Z : ZT} {c0 s0 n pc : Nat} {μ : Mem} {L : List (Nat × AV)} {st : List AV} (hY : Y.1.cls = RX4) (hd : decode Y.2.1 pc = .ok (.new 72, 3)) (hsh : SH (n : Int) = (1, 6)) (hc : c0 + 1 ≤ Y.2.2.2.2.2.2.1) (hs : s0 + 6 ≤ Y.2.2.2.2.2.2.2) (hx : gx G n μ → gx G (n + 1) (nw μ n (objD 1))) (w : Wa G Y Z (c0 + 1) (s0 + 6) (n + 1) (nw μ n (objD 1)) (pc + 3) L (.inr n :: st)) : Wa G Y Z c0 s0 n μ pc L st :=
  a_new cf_1 sm_1 hd (by rw [hY]; exact lc_X4_72) ab_1 in_1 hsh hc hs hx w
theorem lc_X6_15 : Cond.classLink RX6 15 RX8 ∈ gT := gT_mem (i := 182) (by decide +kernel) (by decide +kernel)
theorem n_X6_15 {G : GT} {Y : MD} {Z : ZT} {c0 s0 n pc : Nat} {μ : Mem} {L : List (Nat × AV)} {st : List AV} (hY : Y.1.cls = RX6) (hd : decode Y.2.1 pc = .ok (.new 15, 3)) (hsh : SH (n : Int) = (8, 3)) (hc : c0 + 1 ≤ Y.2.2.2.2.2.2.1) (hs : s0 + 3 ≤ Y.2.2.2.2.2.2.2) (hx : gx G n μ → gx G (n + 1) (nw μ n (objD 8))) (w : Wa G Y Z (c0 + 1) (s0 + 3) (n + 1) (nw μ n (objD 8)) (pc + 3) L (.inr n :: st)) : Wa G Y Z c0 s0 n μ pc L st :=
  a_new cf_8 sm_8 hd (by rw [hY]; exact lc_X6_15) ab_8 in_8 hsh hc hs hx w
theorem lc_X7_9 : Cond.classLink RX7 9 RX0 ∈ gT := gT_mem (i := 247) (by decide +kernel) (by decide +kernel)
theorem na_X7_9 {G : GT} {Y : MD} {Z : ZT} {c0 s0 n pc : Nat} {μ : Mem} {L : List (Nat × AV)} {st : List AV} {N : Nat} (hY : Y.1.cls = RX7) (hd : decode Y.2.1 pc = .ok (.anewarray 9, 3)) (hN : N < 1000000) (hsh : SH (n : Int) = (22, N)) (hc : c0 + 1 ≤ Y.2.2.2.2.2.2.1) (hs : s0 + N ≤ Y.2.2.2.2.2.2.2) (hx : gx G n μ → gx G (n + 1) (nw μ n nullD)) (w : Wa G Y Z (c0 + 1) (s0 + N) (n + 1) (nw μ n nullD) (pc + 3) L (.inr n :: st)) : Wa G Y Z c0 s0 n μ pc L (.inl N :: st) :=
  a_newref (kd := 22) (t0 := 2) (C := RX0) hd (by decide) rfl (by rw [hY]; exact lc_X7_9) (fun U h => h.2.2.1) hN hsh hc hs hx w
theorem n_X7_9 {G : GT} {Y : MD} {Z : ZT} {c0 s0 n pc : Nat} {μ : Mem} {L : List (Nat × AV)} {st : List AV} (hY : Y.1.cls = RX7) (hd : decode Y.2.1 pc = .ok (.new 9, 3)) (hsh : SH (n : Int) = (0, 9)) (hc : c0 + 1 ≤ Y.2.2.2.2.2.2.1) (hs : s0 + 9 ≤ Y.2.2.2.2.2.2.2) (hx : gx G n μ → gx G (n + 1) (nw μ n (objD 0))) (w : Wa G Y Z (c0 + 1) (s0 + 9) (n + 1) (nw μ n (objD 0)) (pc + 3) L (.inr n :: st)) : Wa G Y Z c0 s0 n μ pc L st :=
  a_new cf_0 sm_0 hd (by rw [hY]; exact lc_X7_9) ab_0 in_0 hsh hc hs hx w
theorem lc_L_7 : Cond.classLink RL 7 RX10 ∈ gT := gT_mem (i := 75) (by decide +kernel) (by decide +kernel)
theorem n_L_7 {G : GT} {Y : MD} {Z : ZT} {c0 s0 n pc : Nat} {μ : Mem} {L : List (Nat × AV)} {st : List AV} (hY : Y.1.cls = RL) (hd : decode Y.2.1 pc = .ok (.new 7, 3)) (hsh : SH (n : Int) = (10, 12)) (hc : c0 + 1 ≤ Y.2.2.2.2.2.2.1) (hs : s0 + 12 ≤ Y.2.2.2.2.2.2.2) (hx : gx G n μ → gx G (n + 1) (nw μ n (objD 10))) (w : Wa G Y Z (c0 + 1) (s0 + 12) (n + 1) (nw μ n (objD 10)) (pc + 3) L (.inr n :: st)) : Wa G Y Z c0 s0 n μ pc L st :=
  a_new cf_10 sm_10 hd (by rw [hY]; exact lc_L_7) ab_10 in_10 hsh hc hs hx w
theorem lc_L_10 : Cond.classLink RL 10 RX11 ∈ gT := gT_mem (i := 815) (by decide +kernel) (by decide +kernel)
theorem n_L_10 {G : GT} {Y : MD} {Z : ZT} {c0 s0 n pc : Nat} {μ : Mem} {L : List (Nat × AV)} {st : List AV} (hY : Y.1.cls = RL) (hd : decode Y.2.1 pc = .ok (.new 10, 3)) (hsh : SH (n : Int) = (11, 28)) (hc : c0 + 1 ≤ Y.2.2.2.2.2.2.1) (hs : s0 + 28 ≤ Y.2.2.2.2.2.2.2) (hx : gx G n μ → gx G (n + 1) (nw μ n (objD 11))) (w : Wa G Y Z (c0 + 1) (s0 + 28) (n + 1) (nw μ n (objD 11)) (pc + 3) L (.inr n :: st)) : Wa G Y Z c0 s0 n μ pc L st :=
  a_new cf_11 sm_11 hd (by rw [hY]; exact lc_L_10) ab_11 in_11 hsh hc hs hx w
theorem lm_X10_3 : Cond.methodLink RX10 3 Lib.objectInit ∈ gT := gT_mem (i := 80) (by decide +kernel) (by decide +kernel)
theorem k_X10_3 {G : GT} {Y : MD} {Z : ZT} {c0 s0 n pc : Nat} {μ : Mem} {L : List (Nat × AV)} {st : List AV} {a : Int} (hY : Y.1.cls = RX10) (hd : decode Y.2.1 pc = .ok (.invokespecial 3, 3)) (ha : 0 ≤ a) (hst : st.length ≤ 8) (hf : Nat.ble 1 Y.2.2.2.2.1 = true) (hlo : Nat.ble 20 Y.2.2.2.2.2.1 = true) (w : Wa G Y Z c0 s0 n μ (pc + 3) L st) : Wa G Y Z c0 s0 n μ pc L (.inr a :: st) :=
  a_objInit hd (by rw [hY]; exact lm_X10_3) oi_i oi_c ha hst (Nat.le_of_ble_eq_true hf) (Nat.le_of_ble_eq_true hlo) w
theorem lm_X10_11 : Cond.methodLink RX10 11 yX9_init ∈ gT := gT_mem (i := 85) (by decide +kernel) (by decide +kernel)
theorem k_X10_11 {G : GT} {Y : MD} {Z : ZT} {c0 s0 n pc : Nat} {μ : Mem} {L : List (Nat × AV)} {st : List AV} {a : Int} {Q : Nat → Mem → Prop} (hY : Y.1.cls = RX10) (hd : decode Y.2.1 pc = .ok (.invokespecial 11, 3)) (hst : st.length ≤ 8) (hf : fitsB Y Y_X9_init = true) (hc : c0 + 1 ≤ Y.2.2.2.2.2.2.1) (hs : s0 + 150 ≤ Y.2.2.2.2.2.2.2) (ha : 0 ≤ a) (h : CV G Y_X9_init [.inr a] n μ Q) (w : ∀ (n' : Nat) (ν : Mem), Q n' ν → Wa G Y Z (c0 + 1) (s0 + 150) n' ν (pc + 3) L st) : Wa G Y Z c0 s0 n μ pc L (.inr a :: st) :=
  c_N (Yc := Y_X9_init) (As := []) rfl hd (by rw [hY]; exact lm_X10_11) mc_X9_init mi_X9_init rfl rfl hst (fits_of hf hc hs) ha h rfl rfl w
theorem lm_X10_18 : Cond.methodLink RX10 18 yX4_init ∈ gT := gT_mem (i := 101) (by decide +kernel) (by decide +kernel)
theorem k_X10_18 {G : GT} {Y : MD} {Z : ZT} {c0 s0 n pc : Nat} {μ : Mem} {L : List (Nat × AV)} {st : List AV} {a : Int} {x0 : Int} {Q : Nat → Mem → Prop} (hY : Y.1.cls = RX10) (hd : decode Y.2.1 pc = .ok (.invokespecial 18, 3)) (hst : st.length ≤ 8) (hf : fitsB Y Y_X4_init = true) (hc : c0 + 3 ≤ Y.2.2.2.2.2.2.1) (hs : s0 + 18 ≤ Y.2.2.2.2.2.2.2) (ha : 0 ≤ a) (h : CV G Y_X4_init [.inr a, .inr x0] n μ Q) (w : ∀ (n' : Nat) (ν : Mem), Q n' ν → Wa G Y Z (c0 + 3) (s0 + 18) n' ν (pc + 3) L st) : Wa G Y Z c0 s0 n μ pc L (.inr x0 :: .inr a :: st) :=
  c_N (Yc := Y_X4_init) (As := [.inr x0]) rfl hd (by rw [hY]; exact lm_X10_18) mc_X4_init mi_X4_init rfl rfl hst (fits_of hf hc hs) ha h rfl rfl w
theorem lm_X10_27 : Cond.methodLink RX10 27 yX3_init ∈ gT := gT_mem (i := 175) (by decide +kernel) (by decide +kernel)
theorem k_X10_27 {G : GT} {Y : MD} {Z : ZT} {c0 s0 n pc : Nat} {μ : Mem} {L : List (Nat × AV)} {st : List AV} {a : Int} {Q : Nat → Mem → Prop} (hY : Y.1.cls = RX10) (hd : decode Y.2.1 pc = .ok (.invokespecial 27, 3)) (hst : st.length ≤ 8) (hf : fitsB Y Y_X3_init = true) (hc : c0 + 2 ≤ Y.2.2.2.2.2.2.1) (hs : s0 + 14 ≤ Y.2.2.2.2.2.2.2) (ha : 0 ≤ a) (h : CV G Y_X3_init [.inr a] n μ Q) (w : ∀ (n' : Nat) (ν : Mem), Q n' ν → Wa G Y Z (c0 + 2) (s0 + 14) n' ν (pc + 3) L st) : Wa G Y Z c0 s0 n μ pc L (.inr a :: st) :=
  c_N (Yc := Y_X3_init) (As := []) rfl hd (by rw [hY]; exact lm_X10_27) mc_X3_init mi_X3_init rfl rfl hst (fits_of hf hc hs) ha h rfl rfl w
theorem lm_X10_34 : Cond.methodLink RX10 34 yX6_init ∈ gT := gT_mem (i := 178) (by decide +kernel) (by decide +kernel)
theorem k_X10_34 {G : GT} {Y : MD} {Z : ZT} {c0 s0 n pc : Nat} {μ : Mem} {L : List (Nat × AV)} {st : List AV} {a : Int} {x0 : Int} {Q : Nat → Mem → Prop} (hY : Y.1.cls = RX10) (hd : decode Y.2.1 pc = .ok (.invokespecial 34, 3)) (hst : st.length ≤ 8) (hf : fitsB Y Y_X6_init = true) (hc : c0 + 6 ≤ Y.2.2.2.2.2.2.1) (hs : s0 + 2409 ≤ Y.2.2.2.2.2.2.2) (ha : 0 ≤ a) (h : CV G Y_X6_init [.inr a, .inr x0] n μ Q) (w : ∀ (n' : Nat) (ν : Mem), Q n' ν → Wa G Y Z (c0 + 6) (s0 + 2409) n' ν (pc + 3) L st) : Wa G Y Z c0 s0 n μ pc L (.inr x0 :: .inr a :: st) :=
  c_N (Yc := Y_X6_init) (As := [.inr x0]) rfl hd (by rw [hY]; exact lm_X10_34) mc_X6_init mi_X6_init rfl rfl hst (fits_of hf hc hs) ha h rfl rfl w
theorem lm_X10_43 : Cond.methodLink RX10 43 yX5_init ∈ gT := gT_mem (i := 233) (by decide +kernel) (by decide +kernel)
theorem k_X10_43 {G : GT} {Y : MD} {Z : ZT} {c0 s0 n pc : Nat} {μ : Mem} {L : List (Nat × AV)} {st : List AV} {a : Int} {x0 : Int} {Q : Nat → Mem → Prop} (hY : Y.1.cls = RX10) (hd : decode Y.2.1 pc = .ok (.invokespecial 43, 3)) (hst : st.length ≤ 8) (hf : fitsB Y Y_X5_init = true) (hc : c0 + 0 ≤ Y.2.2.2.2.2.2.1) (hs : s0 + 0 ≤ Y.2.2.2.2.2.2.2) (ha : 0 ≤ a) (h : CV G Y_X5_init [.inr a, .inr x0] n μ Q) (w : ∀ (n' : Nat) (ν : Mem), Q n' ν → Wa G Y Z c0 s0 n' ν (pc + 3) L st) : Wa G Y Z c0 s0 n μ pc L (.inr x0 :: .inr a :: st) :=
  c_N (Yc := Y_X5_init) (As := [.inr x0]) rfl hd (by rw [hY]; exact lm_X10_43) mc_X5_init mi_X5_init rfl rfl hst (fits_of hf hc hs) ha h rfl rfl w
theorem lm_X10_52 : Cond.methodLink RX10 52 yX7_init ∈ gT := gT_mem (i := 243) (by decide +kernel) (by decide +kernel)
theorem k_X10_52 {G : GT} {Y : MD} {Z : ZT} {c0 s0 n pc : Nat} {μ : Mem} {L : List (Nat × AV)} {st : List AV} {a : Int} {x0 : Int} {Q : Nat → Mem → Prop} (hY : Y.1.cls = RX10) (hd : decode Y.2.1 pc = .ok (.invokespecial 52, 3)) (hst : st.length ≤ 8) (hf : fitsB Y Y_X7_init = true) (hc : c0 + 28 ≤ Y.2.2.2.2.2.2.1) (hs : s0 + 7316 ≤ Y.2.2.2.2.2.2.2) (ha : 0 ≤ a) (h : CV G Y_X7_init [.inr a, .inr x0] n μ Q) (w : ∀ (n' : Nat) (ν : Mem), Q n' ν → Wa G Y Z (c0 + 28) (s0 + 7316) n' ν (pc + 3) L st) : Wa G Y Z c0 s0 n μ pc L (.inr x0 :: .inr a :: st) :=
  c_N (Yc := Y_X7_init) (As := [.inr x0]) rfl hd (by rw [hY]; exact lm_X10_52) mc_X7_init mi_X7_init rfl rfl hst (fits_of hf hc hs) ha h rfl rfl w
theorem lm_X10_62 : Cond.methodLink RX10 62 yX2_init ∈ gT := gT_mem (i := 317) (by decide +kernel) (by decide +kernel)
theorem k_X10_62 {G : GT} {Y : MD} {Z : ZT} {c0 s0 n pc : Nat} {μ : Mem} {L : List (Nat × AV)} {st : List AV} {a : Int} {x0 : Int} {Q : Nat → Mem → Prop} (hY : Y.1.cls = RX10) (hd : decode Y.2.1 pc = .ok (.invokespecial 62, 3)) (hst : st.length ≤ 8) (hf : fitsB Y Y_X2_init = true) (hc : c0 + 262 ≤ Y.2.2.2.2.2.2.1) (hs : s0 + 65897 ≤ Y.2.2.2.2.2.2.2) (ha : 0 ≤ a) (h : CV G Y_X2_init [.inr a, .inr x0] n μ Q) (w : ∀ (n' : Nat) (ν : Mem), Q n' ν → Wa G Y Z (c0 + 262) (s0 + 65897) n' ν (pc + 3) L st) : Wa G Y Z c0 s0 n μ pc L (.inr x0 :: .inr a :: st) :=
  c_N (Yc := Y_X2_init) (As := [.inr x0]) rfl hd (by rw [hY]; exact lm_X10_62) mc_X2_init mi_X2_init rfl rfl hst (fits_of hf hc hs) ha h rfl rfl w
theorem lm_X10_75 : Cond.methodLink RX10 75 yX8_init ∈ gT := gT_mem (i := 339) (by decide +kernel) (by decide +kernel)
theorem k_X10_75 {G : GT} {Y : MD} {Z : ZT} {c0 s0 n pc : Nat} {μ : Mem} {L : List (Nat × AV)} {st : List AV} {a : Int} {x0 x1 : Int} {Q : Nat → Mem → Prop} (hY : Y.1.cls = RX10) (hd : decode Y.2.1 pc = .ok (.invokespecial 75, 3)) (hst : st.length ≤ 8) (hf : fitsB Y Y_X8_init = true) (hc : c0 + 1 ≤ Y.2.2.2.2.2.2.1) (hs : s0 + 800 ≤ Y.2.2.2.2.2.2.2) (ha : 0 ≤ a) (h : CV G Y_X8_init [.inr a, .inl x0, .inl x1] n μ Q) (w : ∀ (n' : Nat) (ν : Mem), Q n' ν → Wa G Y Z (c0 + 1) (s0 + 800) n' ν (pc + 3) L st) : Wa G Y Z c0 s0 n μ pc L (.inl x1 :: .inl x0 :: .inr a :: st) :=
  c_N (Yc := Y_X8_init) (As := [.inl x0, .inl x1]) rfl hd (by rw [hY]; exact lm_X10_75) mc_X8_init mi_X8_init rfl rfl hst (fits_of hf hc hs) ha h rfl rfl w
theorem lm_X10_86 : Cond.methodLink RX10 86 yX10_isWithin ∈ gT := gT_mem (i := 381) (by decide +kernel) (by decide +kernel)
theorem k_X10_86 {G : GT} {Y : MD} {Z : ZT} {c0 s0 n pc : Nat} {μ : Mem} {L : List (Nat × AV)} {st : List AV} {x0 x1 x2 : Int} {Q : Int → Nat → Mem → Prop} (hY : Y.1.cls = RX10) (hd : decode Y.2.1 pc = .ok (.invokestatic 86, 3)) (hst : st.length ≤ 8) (hf : fitsB Y Y_X10_isWithin = true) (hc : c0 + 0 ≤ Y.2.2.2.2.2.2.1) (hs : s0 + 0 ≤ Y.2.2.2.2.2.2.2) (h : CI G Y_X10_isWithin [.inl x0, .inl x1, .inl x2] n μ Q) (w : ∀ (x : Int) (n' : Nat) (ν : Mem), Q x n' ν → Wa G Y Z c0 s0 n' ν (pc + 3) L (.inl x :: st)) : Wa G Y Z c0 s0 n μ pc L (.inl x2 :: .inl x1 :: .inl x0 :: st) :=
  c_SI (Yc := Y_X10_isWithin) (As := [.inl x0, .inl x1, .inl x2]) rfl hd (by rw [hY]; exact lm_X10_86) mc_X10_isWithin mt_X10_isWithin hst (fits_of hf hc hs) h rfl rfl w
theorem lm_X10_90 : Cond.methodLink RX10 90 yX9_isFull ∈ gT := gT_mem (i := 384) (by decide +kernel) (by decide +kernel)
theorem k_X10_90 {G : GT} {Y : MD} {Z : ZT} {c0 s0 n pc : Nat} {μ : Mem} {L : List (Nat × AV)} {st : List AV} {a : Int} {Q : Int → Nat → Mem → Prop} (hY : Y.1.cls = RX10) (hd : decode Y.2.1 pc = .ok (.invokevirtual 90, 3)) (hst : st.length ≤ 8) (hf : fitsB Y Y_X9_isFull = true) (hc : c0 + 0 ≤ Y.2.2.2.2.2.2.1) (hs : s0 + 0 ≤ Y.2.2.2.2.2.2.2) (ho : gx G n μ → 0 ≤ a ∧ a < n ∧ SH a = (9, 2)) (h : CI G Y_X9_isFull [.inr a] n μ Q) (w : ∀ (x : Int) (n' : Nat) (ν : Mem), Q x n' ν → Wa G Y Z c0 s0 n' ν (pc + 3) L (.inl x :: st)) : Wa G Y Z c0 s0 n μ pc L (.inr a :: st) :=
  c_VI (Yc := Y_X9_isFull) (As := []) rfl hd (by rw [hY]; exact lm_X10_90) mc_X9_isFull mi_X9_isFull ms_X9_isFull hst (fits_of hf hc hs) cf_9.2.1 (by decide) ho h rfl rfl w
theorem lm_X10_94 : Cond.methodLink RX10 94 yX9_append ∈ gT := gT_mem (i := 388) (by decide +kernel) (by decide +kernel)
theorem k_X10_94 {G : GT} {Y : MD} {Z : ZT} {c0 s0 n pc : Nat} {μ : Mem} {L : List (Nat × AV)} {st : List AV} {a : Int} {x0 : Int} {Q : Nat → Mem → Prop} (hY : Y.1.cls = RX10) (hd : decode Y.2.1 pc = .ok (.invokevirtual 94, 3)) (hst : st.length ≤ 8) (hf : fitsB Y Y_X9_append = true) (hc : c0 + 0 ≤ Y.2.2.2.2.2.2.1) (hs : s0 + 0 ≤ Y.2.2.2.2.2.2.2) (ho : gx G n μ → 0 ≤ a ∧ a < n ∧ SH a = (9, 2)) (h : CV G Y_X9_append [.inr a, .inl x0] n μ Q) (w : ∀ (n' : Nat) (ν : Mem), Q n' ν → Wa G Y Z c0 s0 n' ν (pc + 3) L st) : Wa G Y Z c0 s0 n μ pc L (.inl x0 :: .inr a :: st) :=
  c_VV (Yc := Y_X9_append) (As := [.inl x0]) rfl hd (by rw [hY]; exact lm_X10_94) mc_X9_append mi_X9_append ms_X9_append hst (fits_of hf hc hs) cf_9.2.1 (by decide) ho h rfl rfl w
theorem lm_X10_101 : Cond.methodLink RX10 101 yX9_empty ∈ gT := gT_mem (i := 396) (by decide +kernel) (by decide +kernel)
theorem k_X10_101 {G : GT} {Y : MD} {Z : ZT} {c0 s0 n pc : Nat} {μ : Mem} {L : List (Nat × AV)} {st : List AV} {a : Int} {Q : Nat → Mem → Prop} (hY : Y.1.cls = RX10) (hd : decode Y.2.1 pc = .ok (.invokevirtual 101, 3)) (hst : st.length ≤ 8) (hf : fitsB Y Y_X9_empty = true) (hc : c0 + 0 ≤ Y.2.2.2.2.2.2.1) (hs : s0 + 0 ≤ Y.2.2.2.2.2.2.2) (ho : gx G n μ → 0 ≤ a ∧ a < n ∧ SH a = (9, 2)) (h : CV G Y_X9_empty [.inr a] n μ Q) (w : ∀ (n' : Nat) (ν : Mem), Q n' ν → Wa G Y Z c0 s0 n' ν (pc + 3) L st) : Wa G Y Z c0 s0 n μ pc L (.inr a :: st) :=
  c_VV (Yc := Y_X9_empty) (As := []) rfl hd (by rw [hY]; exact lm_X10_101) mc_X9_empty mi_X9_empty ms_X9_empty hst (fits_of hf hc hs) cf_9.2.1 (by decide) ho h rfl rfl w
theorem lm_X10_104 : Cond.methodLink RX10 104 yX4_readPlan ∈ gT := gT_mem (i := 404) (by decide +kernel) (by decide +kernel)
theorem k_X10_104 {G : GT} {Y : MD} {Z : ZT} {c0 s0 n pc : Nat} {μ : Mem} {L : List (Nat × AV)} {st : List AV} {a : Int} {Q : Int → Nat → Mem → Prop} (hY : Y.1.cls = RX10) (hd : decode Y.2.1 pc = .ok (.invokevirtual 104, 3)) (hst : st.length ≤ 8) (hf : fitsB Y Y_X4_readPlan = true) (hc : c0 + 150 ≤ Y.2.2.2.2.2.2.1) (hs : s0 + 900 ≤ Y.2.2.2.2.2.2.2) (ho : gx G n μ → 0 ≤ a ∧ a < n ∧ SH a = (4, 4)) (h : CI G Y_X4_readPlan [.inr a] n μ Q) (w : ∀ (x : Int) (n' : Nat) (ν : Mem), Q x n' ν → Wa G Y Z (c0 + 150) (s0 + 900) n' ν (pc + 3) L (.inl x :: st)) : Wa G Y Z c0 s0 n μ pc L (.inr a :: st) :=
  c_VI (Yc := Y_X4_readPlan) (As := []) rfl hd (by rw [hY]; exact lm_X10_104) mc_X4_readPlan mi_X4_readPlan ms_X4_readPlan hst (fits_of hf hc hs) cf_4.2.1 (by decide) ho h rfl rfl w
theorem lm_X10_111 : Cond.methodLink RX10 111 yX3_copyFrom ∈ gT := gT_mem (i := 461) (by decide +kernel) (by decide +kernel)
theorem k_X10_111 {G : GT} {Y : MD} {Z : ZT} {c0 s0 n pc : Nat} {μ : Mem} {L : List (Nat × AV)} {st : List AV} {a : Int} {x0 : Int} {Q : Nat → Mem → Prop} (hY : Y.1.cls = RX10) (hd : decode Y.2.1 pc = .ok (.invokevirtual 111, 3)) (hst : st.length ≤ 8) (hf : fitsB Y Y_X3_copyFrom = true) (hc : c0 + 0 ≤ Y.2.2.2.2.2.2.1) (hs : s0 + 0 ≤ Y.2.2.2.2.2.2.2) (ho : gx G n μ → 0 ≤ a ∧ a < n ∧ SH a = (3, 4)) (h : CV G Y_X3_copyFrom [.inr a, .inr x0] n μ Q) (w : ∀ (n' : Nat) (ν : Mem), Q n' ν → Wa G Y Z c0 s0 n' ν (pc + 3) L st) : Wa G Y Z c0 s0 n μ pc L (.inr x0 :: .inr a :: st) :=
  c_VV (Yc := Y_X3_copyFrom) (As := [.inr x0]) rfl hd (by rw [hY]; exact lm_X10_111) mc_X3_copyFrom mi_X3_copyFrom ms_X3_copyFrom hst (fits_of hf hc hs) cf_3.2.1 (by decide) ho h rfl rfl w
theorem lm_X10_114 : Cond.methodLink RX10 114 yX7_reset ∈ gT := gT_mem (i := 470) (by decide +kernel) (by decide +kernel)
theorem k_X10_114 {G : GT} {Y : MD} {Z : ZT} {c0 s0 n pc : Nat} {μ : Mem} {L : List (Nat × AV)} {st : List AV} {a : Int} {Q : Nat → Mem → Prop} (hY : Y.1.cls = RX10) (hd : decode Y.2.1 pc = .ok (.invokevirtual 114, 3)) (hst : st.length ≤ 8) (hf : fitsB Y Y_X7_reset = true) (hc : c0 + 0 ≤ Y.2.2.2.2.2.2.1) (hs : s0 + 0 ≤ Y.2.2.2.2.2.2.2) (ho : gx G n μ → 0 ≤ a ∧ a < n ∧ SH a = (7, 5)) (h : CV G Y_X7_reset [.inr a] n μ Q) (w : ∀ (n' : Nat) (ν : Mem), Q n' ν → Wa G Y Z c0 s0 n' ν (pc + 3) L st) : Wa G Y Z c0 s0 n μ pc L (.inr a :: st) :=
  c_VV (Yc := Y_X7_reset) (As := []) rfl hd (by rw [hY]; exact lm_X10_114) mc_X7_reset mi_X7_reset ms_X7_reset hst (fits_of hf hc hs) cf_7.2.1 (by decide) ho h rfl rfl w
theorem lm_X10_117 : Cond.methodLink RX10 117 yX2_forgetAll ∈ gT := gT_mem (i := 474) (by decide +kernel) (by decide +kernel)
theorem k_X10_117 {G : GT} {Y : MD} {Z : ZT} {c0 s0 n pc : Nat} {μ : Mem} {L : List (Nat × AV)} {st : List AV} {a : Int} {Q : Nat → Mem → Prop} (hY : Y.1.cls = RX10) (hd : decode Y.2.1 pc = .ok (.invokevirtual 117, 3)) (hst : st.length ≤ 8) (hf : fitsB Y Y_X2_forgetAll = true) (hc : c0 + 0 ≤ Y.2.2.2.2.2.2.1) (hs : s0 + 0 ≤ Y.2.2.2.2.2.2.2) (ho : gx G n μ → 0 ≤ a ∧ a < n ∧ SH a = (2, 4)) (h : CV G Y_X2_forgetAll [.inr a] n μ Q) (w : ∀ (n' : Nat) (ν : Mem), Q n' ν → Wa G Y Z c0 s0 n' ν (pc + 3) L st) : Wa G Y Z c0 s0 n μ pc L (.inr a :: st) :=
  c_VV (Yc := Y_X2_forgetAll) (As := []) rfl hd (by rw [hY]; exact lm_X10_117) mc_X2_forgetAll mi_X2_forgetAll ms_X2_forgetAll hst (fits_of hf hc hs) cf_2.2.1 (by decide) ho h rfl rfl w
theorem lm_X10_120 : Cond.methodLink RX10 120 yX8_cut ∈ gT := gT_mem (i := 478) (by decide +kernel) (by decide +kernel)
theorem k_X10_120 {G : GT} {Y : MD} {Z : ZT} {c0 s0 n pc : Nat} {μ : Mem} {L : List (Nat × AV)} {st : List AV} {a : Int} {x0 : Int} {Q : Nat → Mem → Prop} (hY : Y.1.cls = RX10) (hd : decode Y.2.1 pc = .ok (.invokevirtual 120, 3)) (hst : st.length ≤ 8) (hf : fitsB Y Y_X8_cut = true) (hc : c0 + 0 ≤ Y.2.2.2.2.2.2.1) (hs : s0 + 0 ≤ Y.2.2.2.2.2.2.2) (ho : gx G n μ → 0 ≤ a ∧ a < n ∧ SH a = (8, 3)) (h : CV G Y_X8_cut [.inr a, .inl x0] n μ Q) (w : ∀ (n' : Nat) (ν : Mem), Q n' ν → Wa G Y Z c0 s0 n' ν (pc + 3) L st) : Wa G Y Z c0 s0 n μ pc L (.inl x0 :: .inr a :: st) :=
  c_VV (Yc := Y_X8_cut) (As := [.inl x0]) rfl hd (by rw [hY]; exact lm_X10_120) mc_X8_cut mi_X8_cut ms_X8_cut hst (fits_of hf hc hs) cf_8.2.1 (by decide) ho h rfl rfl w
theorem lm_X10_123 : Cond.methodLink RX10 123 yX3_hasContact ∈ gT := gT_mem (i := 487) (by decide +kernel) (by decide +kernel)
theorem k_X10_123 {G : GT} {Y : MD} {Z : ZT} {c0 s0 n pc : Nat} {μ : Mem} {L : List (Nat × AV)} {st : List AV} {a : Int} {x0 : Int} {Q : Int → Nat → Mem → Prop} (hY : Y.1.cls = RX10) (hd : decode Y.2.1 pc = .ok (.invokevirtual 123, 3)) (hst : st.length ≤ 8) (hf : fitsB Y Y_X3_hasContact = true) (hc : c0 + 0 ≤ Y.2.2.2.2.2.2.1) (hs : s0 + 0 ≤ Y.2.2.2.2.2.2.2) (ho : gx G n μ → 0 ≤ a ∧ a < n ∧ SH a = (3, 4)) (h : CI G Y_X3_hasContact [.inr a, .inl x0] n μ Q) (w : ∀ (x : Int) (n' : Nat) (ν : Mem), Q x n' ν → Wa G Y Z c0 s0 n' ν (pc + 3) L (.inl x :: st)) : Wa G Y Z c0 s0 n μ pc L (.inl x0 :: .inr a :: st) :=
  c_VI (Yc := Y_X3_hasContact) (As := [.inl x0]) rfl hd (by rw [hY]; exact lm_X10_123) mc_X3_hasContact mi_X3_hasContact ms_X3_hasContact hst (fits_of hf hc hs) cf_3.2.1 (by decide) ho h rfl rfl w
theorem lm_X10_127 : Cond.methodLink RX10 127 yX7_isMissed ∈ gT := gT_mem (i := 491) (by decide +kernel) (by decide +kernel)
theorem k_X10_127 {G : GT} {Y : MD} {Z : ZT} {c0 s0 n pc : Nat} {μ : Mem} {L : List (Nat × AV)} {st : List AV} {a : Int} {x0 : Int} {Q : Int → Nat → Mem → Prop} (hY : Y.1.cls = RX10) (hd : decode Y.2.1 pc = .ok (.invokevirtual 127, 3)) (hst : st.length ≤ 8) (hf : fitsB Y Y_X7_isMissed = true) (hc : c0 + 0 ≤ Y.2.2.2.2.2.2.1) (hs : s0 + 0 ≤ Y.2.2.2.2.2.2.2) (ho : gx G n μ → 0 ≤ a ∧ a < n ∧ SH a = (7, 5)) (h : CI G Y_X7_isMissed [.inr a, .inl x0] n μ Q) (w : ∀ (x : Int) (n' : Nat) (ν : Mem), Q x n' ν → Wa G Y Z c0 s0 n' ν (pc + 3) L (.inl x :: st)) : Wa G Y Z c0 s0 n μ pc L (.inl x0 :: .inr a :: st) :=
  c_VI (Yc := Y_X7_isMissed) (As := [.inl x0]) rfl hd (by rw [hY]; exact lm_X10_127) mc_X7_isMissed mi_X7_isMissed ms_X7_isMissed hst (fits_of hf hc hs) cf_7.2.1 (by decide) ho h rfl rfl w
theorem lm_X10_130 : Cond.methodLink RX10 130 yX3_contactAt ∈ gT := gT_mem (i := 495) (by decide +kernel) (by decide +kernel)
theorem k_X10_130 {G : GT} {Y : MD} {Z : ZT} {c0 s0 n pc : Nat} {μ : Mem} {L : List (Nat × AV)} {st : List AV} {a : Int} {x0 : Int} {Q : Int → Nat → Mem → Prop} (hY : Y.1.cls = RX10) (hd : decode Y.2.1 pc = .ok (.invokevirtual 130, 3)) (hst : st.length ≤ 8) (hf : fitsB Y Y_X3_contactAt = true) (hc : c0 + 0 ≤ Y.2.2.2.2.2.2.1) (hs : s0 + 0 ≤ Y.2.2.2.2.2.2.2) (ho : gx G n μ → 0 ≤ a ∧ a < n ∧ SH a = (3, 4)) (h : CR G Y_X3_contactAt [.inr a, .inl x0] n μ Q) (w : ∀ (x : Int) (n' : Nat) (ν : Mem), 0 ≤ x → Q x n' ν → Wa G Y Z c0 s0 n' ν (pc + 3) L (.inr x :: st)) : Wa G Y Z c0 s0 n μ pc L (.inl x0 :: .inr a :: st) :=
  c_VR (Yc := Y_X3_contactAt) (As := [.inl x0]) rfl hd (by rw [hY]; exact lm_X10_130) mc_X3_contactAt mi_X3_contactAt ms_X3_contactAt hst (fits_of hf hc hs) cf_3.2.1 (by decide) ho h rfl rfl w
theorem lm_X10_134 : Cond.methodLink RX10 134 yX1_property ∈ gT := gT_mem (i := 496) (by decide +kernel) (by decide +kernel)
theorem k_X10_134 {G : GT} {Y : MD} {Z : ZT} {c0 s0 n pc : Nat} {μ : Mem} {L : List (Nat × AV)} {st : List AV} {a : Int} {x0 : Int} {Q : Int → Nat → Mem → Prop} (hY : Y.1.cls = RX10) (hd : decode Y.2.1 pc = .ok (.invokevirtual 134, 3)) (hst : st.length ≤ 8) (hf : fitsB Y Y_X1_property = true) (hc : c0 + 0 ≤ Y.2.2.2.2.2.2.1) (hs : s0 + 0 ≤ Y.2.2.2.2.2.2.2) (ho : gx G n μ → 0 ≤ a ∧ a < n ∧ SH a = (1, 6)) (h : CI G Y_X1_property [.inr a, .inl x0] n μ Q) (w : ∀ (x : Int) (n' : Nat) (ν : Mem), Q x n' ν → Wa G Y Z c0 s0 n' ν (pc + 3) L (.inl x :: st)) : Wa G Y Z c0 s0 n μ pc L (.inl x0 :: .inr a :: st) :=
  c_VI (Yc := Y_X1_property) (As := [.inl x0]) rfl hd (by rw [hY]; exact lm_X10_134) mc_X1_property mi_X1_property ms_X1_property hst (fits_of hf hc hs) cf_1.2.1 (by decide) ho h rfl rfl w
theorem lm_X10_140 : Cond.methodLink RX10 140 yX10_isSendable ∈ gT := gT_mem (i := 504) (by decide +kernel) (by decide +kernel)
theorem k_X10_140 {G : GT} {Y : MD} {Z : ZT} {c0 s0 n pc : Nat} {μ : Mem} {L : List (Nat × AV)} {st : List AV} {a : Int} {x0 x1 x2 x3 : Int} {Q : Int → Nat → Mem → Prop} (hY : Y.1.cls = RX10) (hd : decode Y.2.1 pc = .ok (.invokevirtual 140, 3)) (hst : st.length ≤ 8) (hf : fitsB Y Y_X10_isSendable = true) (hc : c0 + 0 ≤ Y.2.2.2.2.2.2.1) (hs : s0 + 0 ≤ Y.2.2.2.2.2.2.2) (ho : gx G n μ → 0 ≤ a ∧ a < n ∧ SH a = (10, 12)) (h : CI G Y_X10_isSendable [.inr a, .inl x0, .inl x1, .inl x2, .inl x3] n μ Q) (w : ∀ (x : Int) (n' : Nat) (ν : Mem), Q x n' ν → Wa G Y Z c0 s0 n' ν (pc + 3) L (.inl x :: st)) : Wa G Y Z c0 s0 n μ pc L (.inl x3 :: .inl x2 :: .inl x1 :: .inl x0 :: .inr a :: st) :=
  c_VI (Yc := Y_X10_isSendable) (As := [.inl x0, .inl x1, .inl x2, .inl x3]) rfl hd (by rw [hY]; exact lm_X10_140) mc_X10_isSendable mi_X10_isSendable ms_X10_isSendable hst (fits_of hf hc hs) cf_10.2.1 (by decide) ho h rfl rfl w
theorem lm_X10_147 : Cond.methodLink RX10 147 yX2_remember ∈ gT := gT_mem (i := 512) (by decide +kernel) (by decide +kernel)
theorem k_X10_147 {G : GT} {Y : MD} {Z : ZT} {c0 s0 n pc : Nat} {μ : Mem} {L : List (Nat × AV)} {st : List AV} {a : Int} {x0 : Int} {Q : Nat → Mem → Prop} (hY : Y.1.cls = RX10) (hd : decode Y.2.1 pc = .ok (.invokevirtual 147, 3)) (hst : st.length ≤ 8) (hf : fitsB Y Y_X2_remember = true) (hc : c0 + 0 ≤ Y.2.2.2.2.2.2.1) (hs : s0 + 0 ≤ Y.2.2.2.2.2.2.2) (ho : gx G n μ → 0 ≤ a ∧ a < n ∧ SH a = (2, 4)) (h : CV G Y_X2_remember [.inr a, .inr x0] n μ Q) (w : ∀ (n' : Nat) (ν : Mem), Q n' ν → Wa G Y Z c0 s0 n' ν (pc + 3) L st) : Wa G Y Z c0 s0 n μ pc L (.inr x0 :: .inr a :: st) :=
  c_VV (Yc := Y_X2_remember) (As := [.inr x0]) rfl hd (by rw [hY]; exact lm_X10_147) mc_X2_remember mi_X2_remember ms_X2_remember hst (fits_of hf hc hs) cf_2.2.1 (by decide) ho h rfl rfl w
theorem lm_X10_151 : Cond.methodLink RX10 151 yX7_addBundle ∈ gT := gT_mem (i := 558) (by decide +kernel) (by decide +kernel)
theorem k_X10_151 {G : GT} {Y : MD} {Z : ZT} {c0 s0 n pc : Nat} {μ : Mem} {L : List (Nat × AV)} {st : List AV} {a : Int} {Q : Int → Nat → Mem → Prop} (hY : Y.1.cls = RX10) (hd : decode Y.2.1 pc = .ok (.invokevirtual 151, 3)) (hst : st.length ≤ 8) (hf : fitsB Y Y_X7_addBundle = true) (hc : c0 + 0 ≤ Y.2.2.2.2.2.2.1) (hs : s0 + 0 ≤ Y.2.2.2.2.2.2.2) (ho : gx G n μ → 0 ≤ a ∧ a < n ∧ SH a = (7, 5)) (h : CI G Y_X7_addBundle [.inr a] n μ Q) (w : ∀ (x : Int) (n' : Nat) (ν : Mem), Q x n' ν → Wa G Y Z c0 s0 n' ν (pc + 3) L (.inl x :: st)) : Wa G Y Z c0 s0 n μ pc L (.inr a :: st) :=
  c_VI (Yc := Y_X7_addBundle) (As := []) rfl hd (by rw [hY]; exact lm_X10_151) mc_X7_addBundle mi_X7_addBundle ms_X7_addBundle hst (fits_of hf hc hs) cf_7.2.1 (by decide) ho h rfl rfl w
theorem lm_X10_154 : Cond.methodLink RX10 154 yX7_bundleAt ∈ gT := gT_mem (i := 562) (by decide +kernel) (by decide +kernel)
theorem k_X10_154 {G : GT} {Y : MD} {Z : ZT} {c0 s0 n pc : Nat} {μ : Mem} {L : List (Nat × AV)} {st : List AV} {a : Int} {x0 : Int} {Q : Int → Nat → Mem → Prop} (hY : Y.1.cls = RX10) (hd : decode Y.2.1 pc = .ok (.invokevirtual 154, 3)) (hst : st.length ≤ 8) (hf : fitsB Y Y_X7_bundleAt = true) (hc : c0 + 0 ≤ Y.2.2.2.2.2.2.1) (hs : s0 + 0 ≤ Y.2.2.2.2.2.2.2) (ho : gx G n μ → 0 ≤ a ∧ a < n ∧ SH a = (7, 5)) (h : CR G Y_X7_bundleAt [.inr a, .inl x0] n μ Q) (w : ∀ (x : Int) (n' : Nat) (ν : Mem), 0 ≤ x → Q x n' ν → Wa G Y Z c0 s0 n' ν (pc + 3) L (.inr x :: st)) : Wa G Y Z c0 s0 n μ pc L (.inl x0 :: .inr a :: st) :=
  c_VR (Yc := Y_X7_bundleAt) (As := [.inl x0]) rfl hd (by rw [hY]; exact lm_X10_154) mc_X7_bundleAt mi_X7_bundleAt ms_X7_bundleAt hst (fits_of hf hc hs) cf_7.2.1 (by decide) ho h rfl rfl w
theorem lm_X10_158 : Cond.methodLink RX10 158 yX0_start ∈ gT := gT_mem (i := 563) (by decide +kernel) (by decide +kernel)
theorem k_X10_158 {G : GT} {Y : MD} {Z : ZT} {c0 s0 n pc : Nat} {μ : Mem} {L : List (Nat × AV)} {st : List AV} {a : Int} {x0 x1 x2 x3 x4 : Int} {Q : Nat → Mem → Prop} (hY : Y.1.cls = RX10) (hd : decode Y.2.1 pc = .ok (.invokevirtual 158, 3)) (hst : st.length ≤ 8) (hf : fitsB Y Y_X0_start = true) (hc : c0 + 0 ≤ Y.2.2.2.2.2.2.1) (hs : s0 + 0 ≤ Y.2.2.2.2.2.2.2) (ho : gx G n μ → 0 ≤ a ∧ a < n ∧ SH a = (0, 9)) (h : CV G Y_X0_start [.inr a, .inl x0, .inl x1, .inl x2, .inl x3, .inl x4] n μ Q) (w : ∀ (n' : Nat) (ν : Mem), Q n' ν → Wa G Y Z c0 s0 n' ν (pc + 3) L st) : Wa G Y Z c0 s0 n μ pc L (.inl x4 :: .inl x3 :: .inl x2 :: .inl x1 :: .inl x0 :: .inr a :: st) :=
  c_VV (Yc := Y_X0_start) (As := [.inl x0, .inl x1, .inl x2, .inl x3, .inl x4]) rfl hd (by rw [hY]; exact lm_X10_158) mc_X0_start mi_X0_start ms_X0_start hst (fits_of hf hc hs) cf_0.2.1 (by decide) ho h rfl rfl w
theorem lm_X10_164 : Cond.methodLink RX10 164 yX7_isOpen ∈ gT := gT_mem (i := 564) (by decide +kernel) (by decide +kernel)
theorem k_X10_164 {G : GT} {Y : MD} {Z : ZT} {c0 s0 n pc : Nat} {μ : Mem} {L : List (Nat × AV)} {st : List AV} {a : Int} {x0 : Int} {Q : Int → Nat → Mem → Prop} (hY : Y.1.cls = RX10) (hd : decode Y.2.1 pc = .ok (.invokevirtual 164, 3)) (hst : st.length ≤ 8) (hf : fitsB Y Y_X7_isOpen = true) (hc : c0 + 0 ≤ Y.2.2.2.2.2.2.1) (hs : s0 + 0 ≤ Y.2.2.2.2.2.2.2) (ho : gx G n μ → 0 ≤ a ∧ a < n ∧ SH a = (7, 5)) (h : CI G Y_X7_isOpen [.inr a, .inl x0] n μ Q) (w : ∀ (x : Int) (n' : Nat) (ν : Mem), Q x n' ν → Wa G Y Z c0 s0 n' ν (pc + 3) L (.inl x :: st)) : Wa G Y Z c0 s0 n μ pc L (.inl x0 :: .inr a :: st) :=
  c_VI (Yc := Y_X7_isOpen) (As := [.inl x0]) rfl hd (by rw [hY]; exact lm_X10_164) mc_X7_isOpen mi_X7_isOpen ms_X7_isOpen hst (fits_of hf hc hs) cf_7.2.1 (by decide) ho h rfl rfl w
theorem lm_X10_167 : Cond.methodLink RX10 167 yX5_planAll ∈ gT := gT_mem (i := 578) (by decide +kernel) (by decide +kernel)
theorem k_X10_167 {G : GT} {Y : MD} {Z : ZT} {c0 s0 n pc : Nat} {μ : Mem} {L : List (Nat × AV)} {st : List AV} {a : Int} {x0 x1 : Int} {Q : Nat → Mem → Prop} (hY : Y.1.cls = RX10) (hd : decode Y.2.1 pc = .ok (.invokevirtual 167, 3)) (hst : st.length ≤ 8) (hf : fitsB Y Y_X5_planAll = true) (hc : c0 + 0 ≤ Y.2.2.2.2.2.2.1) (hs : s0 + 0 ≤ Y.2.2.2.2.2.2.2) (ho : gx G n μ → 0 ≤ a ∧ a < n ∧ SH a = (5, 1)) (h : CV G Y_X5_planAll [.inr a, .inr x0, .inl x1] n μ Q) (w : ∀ (n' : Nat) (ν : Mem), Q n' ν → Wa G Y Z c0 s0 n' ν (pc + 3) L st) : Wa G Y Z c0 s0 n μ pc L (.inl x1 :: .inr x0 :: .inr a :: st) :=
  c_VV (Yc := Y_X5_planAll) (As := [.inr x0, .inl x1]) rfl hd (by rw [hY]; exact lm_X10_167) mc_X5_planAll mi_X5_planAll ms_X5_planAll hst (fits_of hf hc hs) cf_5.2.1 (by decide) ho h rfl rfl w
theorem lm_X10_171 : Cond.methodLink RX10 171 yX7_tickAtGoal ∈ gT := gT_mem (i := 657) (by decide +kernel) (by decide +kernel)
theorem k_X10_171 {G : GT} {Y : MD} {Z : ZT} {c0 s0 n pc : Nat} {μ : Mem} {L : List (Nat × AV)} {st : List AV} {a : Int} {x0 : Int} {Q : Int → Nat → Mem → Prop} (hY : Y.1.cls = RX10) (hd : decode Y.2.1 pc = .ok (.invokevirtual 171, 3)) (hst : st.length ≤ 8) (hf : fitsB Y Y_X7_tickAtGoal = true) (hc : c0 + 0 ≤ Y.2.2.2.2.2.2.1) (hs : s0 + 0 ≤ Y.2.2.2.2.2.2.2) (ho : gx G n μ → 0 ≤ a ∧ a < n ∧ SH a = (7, 5)) (h : CI G Y_X7_tickAtGoal [.inr a, .inl x0] n μ Q) (w : ∀ (x : Int) (n' : Nat) (ν : Mem), Q x n' ν → Wa G Y Z c0 s0 n' ν (pc + 3) L (.inl x :: st)) : Wa G Y Z c0 s0 n μ pc L (.inl x0 :: .inr a :: st) :=
  c_VI (Yc := Y_X7_tickAtGoal) (As := [.inl x0]) rfl hd (by rw [hY]; exact lm_X10_171) mc_X7_tickAtGoal mi_X7_tickAtGoal ms_X7_tickAtGoal hst (fits_of hf hc hs) cf_7.2.1 (by decide) ho h rfl rfl w
theorem lm_X10_174 : Cond.methodLink RX10 174 yX7_hasBundle ∈ gT := gT_mem (i := 666) (by decide +kernel) (by decide +kernel)
theorem k_X10_174 {G : GT} {Y : MD} {Z : ZT} {c0 s0 n pc : Nat} {μ : Mem} {L : List (Nat × AV)} {st : List AV} {a : Int} {x0 : Int} {Q : Int → Nat → Mem → Prop} (hY : Y.1.cls = RX10) (hd : decode Y.2.1 pc = .ok (.invokevirtual 174, 3)) (hst : st.length ≤ 8) (hf : fitsB Y Y_X7_hasBundle = true) (hc : c0 + 0 ≤ Y.2.2.2.2.2.2.1) (hs : s0 + 0 ≤ Y.2.2.2.2.2.2.2) (ho : gx G n μ → 0 ≤ a ∧ a < n ∧ SH a = (7, 5)) (h : CI G Y_X7_hasBundle [.inr a, .inl x0] n μ Q) (w : ∀ (x : Int) (n' : Nat) (ν : Mem), Q x n' ν → Wa G Y Z c0 s0 n' ν (pc + 3) L (.inl x :: st)) : Wa G Y Z c0 s0 n μ pc L (.inl x0 :: .inr a :: st) :=
  c_VI (Yc := Y_X7_hasBundle) (As := [.inl x0]) rfl hd (by rw [hY]; exact lm_X10_174) mc_X7_hasBundle mi_X7_hasBundle ms_X7_hasBundle hst (fits_of hf hc hs) cf_7.2.1 (by decide) ho h rfl rfl w
theorem lm_X10_180 : Cond.methodLink RX10 180 yX0_drop ∈ gT := gT_mem (i := 670) (by decide +kernel) (by decide +kernel)
theorem k_X10_180 {G : GT} {Y : MD} {Z : ZT} {c0 s0 n pc : Nat} {μ : Mem} {L : List (Nat × AV)} {st : List AV} {a : Int} {x0 : Int} {Q : Nat → Mem → Prop} (hY : Y.1.cls = RX10) (hd : decode Y.2.1 pc = .ok (.invokevirtual 180, 3)) (hst : st.length ≤ 8) (hf : fitsB Y Y_X0_drop = true) (hc : c0 + 0 ≤ Y.2.2.2.2.2.2.1) (hs : s0 + 0 ≤ Y.2.2.2.2.2.2.2) (ho : gx G n μ → 0 ≤ a ∧ a < n ∧ SH a = (0, 9)) (h : CV G Y_X0_drop [.inr a, .inl x0] n μ Q) (w : ∀ (n' : Nat) (ν : Mem), Q n' ν → Wa G Y Z c0 s0 n' ν (pc + 3) L st) : Wa G Y Z c0 s0 n μ pc L (.inl x0 :: .inr a :: st) :=
  c_VV (Yc := Y_X0_drop) (As := [.inl x0]) rfl hd (by rw [hY]; exact lm_X10_180) mc_X0_drop mi_X0_drop ms_X0_drop hst (fits_of hf hc hs) cf_0.2.1 (by decide) ho h rfl rfl w
theorem lm_X10_183 : Cond.methodLink RX10 183 yX7_advance ∈ gT := gT_mem (i := 679) (by decide +kernel) (by decide +kernel)
theorem k_X10_183 {G : GT} {Y : MD} {Z : ZT} {c0 s0 n pc : Nat} {μ : Mem} {L : List (Nat × AV)} {st : List AV} {a : Int} {x0 : Int} {Q : Nat → Mem → Prop} (hY : Y.1.cls = RX10) (hd : decode Y.2.1 pc = .ok (.invokevirtual 183, 3)) (hst : st.length ≤ 8) (hf : fitsB Y Y_X7_advance = true) (hc : c0 + 0 ≤ Y.2.2.2.2.2.2.1) (hs : s0 + 0 ≤ Y.2.2.2.2.2.2.2) (ho : gx G n μ → 0 ≤ a ∧ a < n ∧ SH a = (7, 5)) (h : CV G Y_X7_advance [.inr a, .inl x0] n μ Q) (w : ∀ (n' : Nat) (ν : Mem), Q n' ν → Wa G Y Z c0 s0 n' ν (pc + 3) L st) : Wa G Y Z c0 s0 n μ pc L (.inl x0 :: .inr a :: st) :=
  c_VV (Yc := Y_X7_advance) (As := [.inl x0]) rfl hd (by rw [hY]; exact lm_X10_183) mc_X7_advance mi_X7_advance ms_X7_advance hst (fits_of hf hc hs) cf_7.2.1 (by decide) ho h rfl rfl w
theorem lm_X10_186 : Cond.methodLink RX10 186 yX7_lose ∈ gT := gT_mem (i := 696) (by decide +kernel) (by decide +kernel)
theorem k_X10_186 {G : GT} {Y : MD} {Z : ZT} {c0 s0 n pc : Nat} {μ : Mem} {L : List (Nat × AV)} {st : List AV} {a : Int} {x0 : Int} {Q : Int → Nat → Mem → Prop} (hY : Y.1.cls = RX10) (hd : decode Y.2.1 pc = .ok (.invokevirtual 186, 3)) (hst : st.length ≤ 8) (hf : fitsB Y Y_X7_lose = true) (hc : c0 + 0 ≤ Y.2.2.2.2.2.2.1) (hs : s0 + 0 ≤ Y.2.2.2.2.2.2.2) (ho : gx G n μ → 0 ≤ a ∧ a < n ∧ SH a = (7, 5)) (h : CI G Y_X7_lose [.inr a, .inl x0] n μ Q) (w : ∀ (x : Int) (n' : Nat) (ν : Mem), Q x n' ν → Wa G Y Z c0 s0 n' ν (pc + 3) L (.inl x :: st)) : Wa G Y Z c0 s0 n μ pc L (.inl x0 :: .inr a :: st) :=
  c_VI (Yc := Y_X7_lose) (As := [.inl x0]) rfl hd (by rw [hY]; exact lm_X10_186) mc_X7_lose mi_X7_lose ms_X7_lose hst (fits_of hf hc hs) cf_7.2.1 (by decide) ho h rfl rfl w
theorem lm_X10_189 : Cond.methodLink RX10 189 yX7_countStanding ∈ gT := gT_mem (i := 705) (by decide +kernel) (by decide +kernel)
theorem k_X10_189 {G : GT} {Y : MD} {Z : ZT} {c0 s0 n pc : Nat} {μ : Mem} {L : List (Nat × AV)} {st : List AV} {a : Int} {x0 : Int} {Q : Int → Nat → Mem → Prop} (hY : Y.1.cls = RX10) (hd : decode Y.2.1 pc = .ok (.invokevirtual 189, 3)) (hst : st.length ≤ 8) (hf : fitsB Y Y_X7_countStanding = true) (hc : c0 + 0 ≤ Y.2.2.2.2.2.2.1) (hs : s0 + 0 ≤ Y.2.2.2.2.2.2.2) (ho : gx G n μ → 0 ≤ a ∧ a < n ∧ SH a = (7, 5)) (h : CI G Y_X7_countStanding [.inr a, .inl x0] n μ Q) (w : ∀ (x : Int) (n' : Nat) (ν : Mem), Q x n' ν → Wa G Y Z c0 s0 n' ν (pc + 3) L (.inl x :: st)) : Wa G Y Z c0 s0 n μ pc L (.inl x0 :: .inr a :: st) :=
  c_VI (Yc := Y_X7_countStanding) (As := [.inl x0]) rfl hd (by rw [hY]; exact lm_X10_189) mc_X7_countStanding mi_X7_countStanding ms_X7_countStanding hst (fits_of hf hc hs) cf_7.2.1 (by decide) ho h rfl rfl w
theorem lm_X10_192 : Cond.methodLink RX10 192 yX7_regain ∈ gT := gT_mem (i := 723) (by decide +kernel) (by decide +kernel)
theorem k_X10_192 {G : GT} {Y : MD} {Z : ZT} {c0 s0 n pc : Nat} {μ : Mem} {L : List (Nat × AV)} {st : List AV} {a : Int} {x0 : Int} {Q : Int → Nat → Mem → Prop} (hY : Y.1.cls = RX10) (hd : decode Y.2.1 pc = .ok (.invokevirtual 192, 3)) (hst : st.length ≤ 8) (hf : fitsB Y Y_X7_regain = true) (hc : c0 + 0 ≤ Y.2.2.2.2.2.2.1) (hs : s0 + 0 ≤ Y.2.2.2.2.2.2.2) (ho : gx G n μ → 0 ≤ a ∧ a < n ∧ SH a = (7, 5)) (h : CI G Y_X7_regain [.inr a, .inl x0] n μ Q) (w : ∀ (x : Int) (n' : Nat) (ν : Mem), Q x n' ν → Wa G Y Z c0 s0 n' ν (pc + 3) L (.inl x :: st)) : Wa G Y Z c0 s0 n μ pc L (.inl x0 :: .inr a :: st) :=
  c_VI (Yc := Y_X7_regain) (As := [.inl x0]) rfl hd (by rw [hY]; exact lm_X10_192) mc_X7_regain mi_X7_regain ms_X7_regain hst (fits_of hf hc hs) cf_7.2.1 (by decide) ho h rfl rfl w
theorem lm_X10_198 : Cond.methodLink RX10 198 yX2_takeBack ∈ gT := gT_mem (i := 731) (by decide +kernel) (by decide +kernel)
theorem k_X10_198 {G : GT} {Y : MD} {Z : ZT} {c0 s0 n pc : Nat} {μ : Mem} {L : List (Nat × AV)} {st : List AV} {a : Int} {x0 : Int} {Q : Nat → Mem → Prop} (hY : Y.1.cls = RX10) (hd : decode Y.2.1 pc = .ok (.invokevirtual 198, 3)) (hst : st.length ≤ 8) (hf : fitsB Y Y_X2_takeBack = true) (hc : c0 + 0 ≤ Y.2.2.2.2.2.2.1) (hs : s0 + 0 ≤ Y.2.2.2.2.2.2.2) (ho : gx G n μ → 0 ≤ a ∧ a < n ∧ SH a = (2, 4)) (h : CV G Y_X2_takeBack [.inr a, .inr x0] n μ Q) (w : ∀ (n' : Nat) (ν : Mem), Q n' ν → Wa G Y Z c0 s0 n' ν (pc + 3) L st) : Wa G Y Z c0 s0 n μ pc L (.inr x0 :: .inr a :: st) :=
  c_VV (Yc := Y_X2_takeBack) (As := [.inr x0]) rfl hd (by rw [hY]; exact lm_X10_198) mc_X2_takeBack mi_X2_takeBack ms_X2_takeBack hst (fits_of hf hc hs) cf_2.2.1 (by decide) ho h rfl rfl w
theorem lm_X10_201 : Cond.methodLink RX10 201 yX0_property ∈ gT := gT_mem (i := 739) (by decide +kernel) (by decide +kernel)
theorem k_X10_201 {G : GT} {Y : MD} {Z : ZT} {c0 s0 n pc : Nat} {μ : Mem} {L : List (Nat × AV)} {st : List AV} {a : Int} {x0 x1 : Int} {Q : Int → Nat → Mem → Prop} (hY : Y.1.cls = RX10) (hd : decode Y.2.1 pc = .ok (.invokevirtual 201, 3)) (hst : st.length ≤ 8) (hf : fitsB Y Y_X0_property = true) (hc : c0 + 0 ≤ Y.2.2.2.2.2.2.1) (hs : s0 + 0 ≤ Y.2.2.2.2.2.2.2) (ho : gx G n μ → 0 ≤ a ∧ a < n ∧ SH a = (0, 9)) (h : CI G Y_X0_property [.inr a, .inl x0, .inl x1] n μ Q) (w : ∀ (x : Int) (n' : Nat) (ν : Mem), Q x n' ν → Wa G Y Z c0 s0 n' ν (pc + 3) L (.inl x :: st)) : Wa G Y Z c0 s0 n μ pc L (.inl x1 :: .inl x0 :: .inr a :: st) :=
  c_VI (Yc := Y_X0_property) (As := [.inl x0, .inl x1]) rfl hd (by rw [hY]; exact lm_X10_201) mc_X0_property mi_X0_property ms_X0_property hst (fits_of hf hc hs) cf_0.2.1 (by decide) ho h rfl rfl w
theorem lm_X10_207 : Cond.methodLink RX10 207 yX8_at ∈ gT := gT_mem (i := 749) (by decide +kernel) (by decide +kernel)
theorem k_X10_207 {G : GT} {Y : MD} {Z : ZT} {c0 s0 n pc : Nat} {μ : Mem} {L : List (Nat × AV)} {st : List AV} {a : Int} {x0 x1 : Int} {Q : Int → Nat → Mem → Prop} (hY : Y.1.cls = RX10) (hd : decode Y.2.1 pc = .ok (.invokevirtual 207, 3)) (hst : st.length ≤ 8) (hf : fitsB Y Y_X8_at = true) (hc : c0 + 0 ≤ Y.2.2.2.2.2.2.1) (hs : s0 + 0 ≤ Y.2.2.2.2.2.2.2) (ho : gx G n μ → 0 ≤ a ∧ a < n ∧ SH a = (8, 3)) (h : CI G Y_X8_at [.inr a, .inl x0, .inl x1] n μ Q) (w : ∀ (x : Int) (n' : Nat) (ν : Mem), Q x n' ν → Wa G Y Z c0 s0 n' ν (pc + 3) L (.inl x :: st)) : Wa G Y Z c0 s0 n μ pc L (.inl x1 :: .inl x0 :: .inr a :: st) :=
  c_VI (Yc := Y_X8_at) (As := [.inl x0, .inl x1]) rfl hd (by rw [hY]; exact lm_X10_207) mc_X8_at mi_X8_at ms_X8_at hst (fits_of hf hc hs) cf_8.2.1 (by decide) ho h rfl rfl w
theorem lm_X10_210 : Cond.methodLink RX10 210 yX7_takerOf ∈ gT := gT_mem (i := 754) (by decide +kernel) (by decide +kernel)
theorem k_X10_210 {G : GT} {Y : MD} {Z : ZT} {c0 s0 n pc : Nat} {μ : Mem} {L : List (Nat × AV)} {st : List AV} {a : Int} {x0 x1 : Int} {Q : Int → Nat → Mem → Prop} (hY : Y.1.cls = RX10) (hd : decode Y.2.1 pc = .ok (.invokevirtual 210, 3)) (hst : st.length ≤ 8) (hf : fitsB Y Y_X7_takerOf = true) (hc : c0 + 0 ≤ Y.2.2.2.2.2.2.1) (hs : s0 + 0 ≤ Y.2.2.2.2.2.2.2) (ho : gx G n μ → 0 ≤ a ∧ a < n ∧ SH a = (7, 5)) (h : CI G Y_X7_takerOf [.inr a, .inl x0, .inl x1] n μ Q) (w : ∀ (x : Int) (n' : Nat) (ν : Mem), Q x n' ν → Wa G Y Z c0 s0 n' ν (pc + 3) L (.inl x :: st)) : Wa G Y Z c0 s0 n μ pc L (.inl x1 :: .inl x0 :: .inr a :: st) :=
  c_VI (Yc := Y_X7_takerOf) (As := [.inl x0, .inl x1]) rfl hd (by rw [hY]; exact lm_X10_210) mc_X7_takerOf mi_X7_takerOf ms_X7_takerOf hst (fits_of hf hc hs) cf_7.2.1 (by decide) ho h rfl rfl w
theorem lm_X10_213 : Cond.methodLink RX10 213 yX6_lookAt ∈ gT := gT_mem (i := 766) (by decide +kernel) (by decide +kernel)
theorem k_X10_213 {G : GT} {Y : MD} {Z : ZT} {c0 s0 n pc : Nat} {μ : Mem} {L : List (Nat × AV)} {st : List AV} {a : Int} {x0 x1 : Int} {Q : Nat → Mem → Prop} (hY : Y.1.cls = RX10) (hd : decode Y.2.1 pc = .ok (.invokevirtual 213, 3)) (hst : st.length ≤ 8) (hf : fitsB Y Y_X6_lookAt = true) (hc : c0 + 0 ≤ Y.2.2.2.2.2.2.1) (hs : s0 + 0 ≤ Y.2.2.2.2.2.2.2) (ho : gx G n μ → 0 ≤ a ∧ a < n ∧ SH a = (6, 8)) (h : CV G Y_X6_lookAt [.inr a, .inr x0, .inl x1] n μ Q) (w : ∀ (n' : Nat) (ν : Mem), Q n' ν → Wa G Y Z c0 s0 n' ν (pc + 3) L st) : Wa G Y Z c0 s0 n μ pc L (.inl x1 :: .inr x0 :: .inr a :: st) :=
  c_VV (Yc := Y_X6_lookAt) (As := [.inr x0, .inl x1]) rfl hd (by rw [hY]; exact lm_X10_213) mc_X6_lookAt mi_X6_lookAt ms_X6_lookAt hst (fits_of hf hc hs) cf_6.2.1 (by decide) ho h rfl rfl w
theorem lm_X10_216 : Cond.methodLink RX10 216 yX10_predict ∈ gT := gT_mem (i := 767) (by decide +kernel) (by decide +kernel)
theorem k_X10_216 {G : GT} {Y : MD} {Z : ZT} {c0 s0 n pc : Nat} {μ : Mem} {L : List (Nat × AV)} {st : List AV} {a : Int} {x0 x1 x2 x3 : Int} {Q : Int → Nat → Mem → Prop} (hY : Y.1.cls = RX10) (hd : decode Y.2.1 pc = .ok (.invokevirtual 216, 3)) (hst : st.length ≤ 8) (hf : fitsB Y Y_X10_predict = true) (hc : c0 + 0 ≤ Y.2.2.2.2.2.2.1) (hs : s0 + 0 ≤ Y.2.2.2.2.2.2.2) (ho : gx G n μ → 0 ≤ a ∧ a < n ∧ SH a = (10, 12)) (h : CI G Y_X10_predict [.inr a, .inl x0, .inl x1, .inl x2, .inl x3] n μ Q) (w : ∀ (x : Int) (n' : Nat) (ν : Mem), Q x n' ν → Wa G Y Z c0 s0 n' ν (pc + 3) L (.inl x :: st)) : Wa G Y Z c0 s0 n μ pc L (.inl x3 :: .inl x2 :: .inl x1 :: .inl x0 :: .inr a :: st) :=
  c_VI (Yc := Y_X10_predict) (As := [.inl x0, .inl x1, .inl x2, .inl x3]) rfl hd (by rw [hY]; exact lm_X10_216) mc_X10_predict mi_X10_predict ms_X10_predict hst (fits_of hf hc hs) cf_10.2.1 (by decide) ho h rfl rfl w
theorem lm_X10_223 : Cond.methodLink RX10 223 yX7_copyFrom ∈ gT := gT_mem (i := 780) (by decide +kernel) (by decide +kernel)
theorem k_X10_223 {G : GT} {Y : MD} {Z : ZT} {c0 s0 n pc : Nat} {μ : Mem} {L : List (Nat × AV)} {st : List AV} {a : Int} {x0 : Int} {Q : Nat → Mem → Prop} (hY : Y.1.cls = RX10) (hd : decode Y.2.1 pc = .ok (.invokevirtual 223, 3)) (hst : st.length ≤ 8) (hf : fitsB Y Y_X7_copyFrom = true) (hc : c0 + 0 ≤ Y.2.2.2.2.2.2.1) (hs : s0 + 0 ≤ Y.2.2.2.2.2.2.2) (ho : gx G n μ → 0 ≤ a ∧ a < n ∧ SH a = (7, 5)) (h : CV G Y_X7_copyFrom [.inr a, .inr x0] n μ Q) (w : ∀ (n' : Nat) (ν : Mem), Q n' ν → Wa G Y Z c0 s0 n' ν (pc + 3) L st) : Wa G Y Z c0 s0 n μ pc L (.inr x0 :: .inr a :: st) :=
  c_VV (Yc := Y_X7_copyFrom) (As := [.inr x0]) rfl hd (by rw [hY]; exact lm_X10_223) mc_X7_copyFrom mi_X7_copyFrom ms_X7_copyFrom hst (fits_of hf hc hs) cf_7.2.1 (by decide) ho h rfl rfl w
theorem lm_X10_225 : Cond.methodLink RX10 225 yX3_hasNode ∈ gT := gT_mem (i := 508) (by decide +kernel) (by decide +kernel)
theorem k_X10_225 {G : GT} {Y : MD} {Z : ZT} {c0 s0 n pc : Nat} {μ : Mem} {L : List (Nat × AV)} {st : List AV} {a : Int} {x0 : Int} {Q : Int → Nat → Mem → Prop} (hY : Y.1.cls = RX10) (hd : decode Y.2.1 pc = .ok (.invokevirtual 225, 3)) (hst : st.length ≤ 8) (hf : fitsB Y Y_X3_hasNode = true) (hc : c0 + 0 ≤ Y.2.2.2.2.2.2.1) (hs : s0 + 0 ≤ Y.2.2.2.2.2.2.2) (ho : gx G n μ → 0 ≤ a ∧ a < n ∧ SH a = (3, 4)) (h : CI G Y_X3_hasNode [.inr a, .inl x0] n μ Q) (w : ∀ (x : Int) (n' : Nat) (ν : Mem), Q x n' ν → Wa G Y Z c0 s0 n' ν (pc + 3) L (.inl x :: st)) : Wa G Y Z c0 s0 n μ pc L (.inl x0 :: .inr a :: st) :=
  c_VI (Yc := Y_X3_hasNode) (As := [.inl x0]) rfl hd (by rw [hY]; exact lm_X10_225) mc_X3_hasNode mi_X3_hasNode ms_X3_hasNode hst (fits_of hf hc hs) cf_3.2.1 (by decide) ho h rfl rfl w
theorem lm_X10_231 : Cond.methodLink RX10 231 yX8_addRow ∈ gT := gT_mem (i := 785) (by decide +kernel) (by decide +kernel)
theorem k_X10_231 {G : GT} {Y : MD} {Z : ZT} {c0 s0 n pc : Nat} {μ : Mem} {L : List (Nat × AV)} {st : List AV} {a : Int} {Q : Int → Nat → Mem → Prop} (hY : Y.1.cls = RX10) (hd : decode Y.2.1 pc = .ok (.invokevirtual 231, 3)) (hst : st.length ≤ 8) (hf : fitsB Y Y_X8_addRow = true) (hc : c0 + 0 ≤ Y.2.2.2.2.2.2.1) (hs : s0 + 0 ≤ Y.2.2.2.2.2.2.2) (ho : gx G n μ → 0 ≤ a ∧ a < n ∧ SH a = (8, 3)) (h : CI G Y_X8_addRow [.inr a] n μ Q) (w : ∀ (x : Int) (n' : Nat) (ν : Mem), Q x n' ν → Wa G Y Z c0 s0 n' ν (pc + 3) L (.inl x :: st)) : Wa G Y Z c0 s0 n μ pc L (.inr a :: st) :=
  c_VI (Yc := Y_X8_addRow) (As := []) rfl hd (by rw [hY]; exact lm_X10_231) mc_X8_addRow mi_X8_addRow ms_X8_addRow hst (fits_of hf hc hs) cf_8.2.1 (by decide) ho h rfl rfl w
theorem lm_X10_234 : Cond.methodLink RX10 234 yX8_put ∈ gT := gT_mem (i := 786) (by decide +kernel) (by decide +kernel)
theorem k_X10_234 {G : GT} {Y : MD} {Z : ZT} {c0 s0 n pc : Nat} {μ : Mem} {L : List (Nat × AV)} {st : List AV} {a : Int} {x0 x1 x2 : Int} {Q : Nat → Mem → Prop} (hY : Y.1.cls = RX10) (hd : decode Y.2.1 pc = .ok (.invokevirtual 234, 3)) (hst : st.length ≤ 8) (hf : fitsB Y Y_X8_put = true) (hc : c0 + 0 ≤ Y.2.2.2.2.2.2.1) (hs : s0 + 0 ≤ Y.2.2.2.2.2.2.2) (ho : gx G n μ → 0 ≤ a ∧ a < n ∧ SH a = (8, 3)) (h : CV G Y_X8_put [.inr a, .inl x0, .inl x1, .inl x2] n μ Q) (w : ∀ (n' : Nat) (ν : Mem), Q n' ν → Wa G Y Z c0 s0 n' ν (pc + 3) L st) : Wa G Y Z c0 s0 n μ pc L (.inl x2 :: .inl x1 :: .inl x0 :: .inr a :: st) :=
  c_VV (Yc := Y_X8_put) (As := [.inl x0, .inl x1, .inl x2]) rfl hd (by rw [hY]; exact lm_X10_234) mc_X8_put mi_X8_put ms_X8_put hst (fits_of hf hc hs) cf_8.2.1 (by decide) ho h rfl rfl w
theorem lm_X10_238 : Cond.methodLink RX10 238 yX10_explainsAll ∈ gT := gT_mem (i := 795) (by decide +kernel) (by decide +kernel)
theorem k_X10_238 {G : GT} {Y : MD} {Z : ZT} {c0 s0 n pc : Nat} {μ : Mem} {L : List (Nat × AV)} {st : List AV} {a : Int} {x0 : Int} {Q : Int → Nat → Mem → Prop} (hY : Y.1.cls = RX10) (hd : decode Y.2.1 pc = .ok (.invokevirtual 238, 3)) (hst : st.length ≤ 8) (hf : fitsB Y Y_X10_explainsAll = true) (hc : c0 + 0 ≤ Y.2.2.2.2.2.2.1) (hs : s0 + 0 ≤ Y.2.2.2.2.2.2.2) (ho : gx G n μ → 0 ≤ a ∧ a < n ∧ SH a = (10, 12)) (h : CI G Y_X10_explainsAll [.inr a, .inl x0] n μ Q) (w : ∀ (x : Int) (n' : Nat) (ν : Mem), Q x n' ν → Wa G Y Z c0 s0 n' ν (pc + 3) L (.inl x :: st)) : Wa G Y Z c0 s0 n μ pc L (.inl x0 :: .inr a :: st) :=
  c_VI (Yc := Y_X10_explainsAll) (As := [.inl x0]) rfl hd (by rw [hY]; exact lm_X10_238) mc_X10_explainsAll mi_X10_explainsAll ms_X10_explainsAll hst (fits_of hf hc hs) cf_10.2.1 (by decide) ho h rfl rfl w
theorem lm_X10_241 : Cond.methodLink RX10 241 yX10_imageAt ∈ gT := gT_mem (i := 803) (by decide +kernel) (by decide +kernel)
theorem k_X10_241 {G : GT} {Y : MD} {Z : ZT} {c0 s0 n pc : Nat} {μ : Mem} {L : List (Nat × AV)} {st : List AV} {a : Int} {x0 : Int} {Q : Int → Nat → Mem → Prop} (hY : Y.1.cls = RX10) (hd : decode Y.2.1 pc = .ok (.invokevirtual 241, 3)) (hst : st.length ≤ 8) (hf : fitsB Y Y_X10_imageAt = true) (hc : c0 + 0 ≤ Y.2.2.2.2.2.2.1) (hs : s0 + 0 ≤ Y.2.2.2.2.2.2.2) (ho : gx G n μ → 0 ≤ a ∧ a < n ∧ SH a = (10, 12)) (h : CR G Y_X10_imageAt [.inr a, .inl x0] n μ Q) (w : ∀ (x : Int) (n' : Nat) (ν : Mem), 0 ≤ x → Q x n' ν → Wa G Y Z c0 s0 n' ν (pc + 3) L (.inr x :: st)) : Wa G Y Z c0 s0 n μ pc L (.inl x0 :: .inr a :: st) :=
  c_VR (Yc := Y_X10_imageAt) (As := [.inl x0]) rfl hd (by rw [hY]; exact lm_X10_241) mc_X10_imageAt mi_X10_imageAt ms_X10_imageAt hst (fits_of hf hc hs) cf_10.2.1 (by decide) ho h rfl rfl w
theorem lm_X10_248 : Cond.methodLink RX10 248 yX6_seek ∈ gT := gT_mem (i := 771) (by decide +kernel) (by decide +kernel)
theorem k_X10_248 {G : GT} {Y : MD} {Z : ZT} {c0 s0 n pc : Nat} {μ : Mem} {L : List (Nat × AV)} {st : List AV} {a : Int} {x0 x1 x2 x3 x4 : Int} {Q : Int → Nat → Mem → Prop} (hY : Y.1.cls = RX10) (hd : decode Y.2.1 pc = .ok (.invokevirtual 248, 3)) (hst : st.length ≤ 8) (hf : fitsB Y Y_X6_seek = true) (hc : c0 + 0 ≤ Y.2.2.2.2.2.2.1) (hs : s0 + 0 ≤ Y.2.2.2.2.2.2.2) (ho : gx G n μ → 0 ≤ a ∧ a < n ∧ SH a = (6, 8)) (h : CI G Y_X6_seek [.inr a, .inl x0, .inl x1, .inl x2, .inl x3, .inl x4] n μ Q) (w : ∀ (x : Int) (n' : Nat) (ν : Mem), Q x n' ν → Wa G Y Z c0 s0 n' ν (pc + 3) L (.inl x :: st)) : Wa G Y Z c0 s0 n μ pc L (.inl x4 :: .inl x3 :: .inl x2 :: .inl x1 :: .inl x0 :: .inr a :: st) :=
  c_VI (Yc := Y_X6_seek) (As := [.inl x0, .inl x1, .inl x2, .inl x3, .inl x4]) rfl hd (by rw [hY]; exact lm_X10_248) mc_X6_seek mi_X6_seek ms_X6_seek hst (fits_of hf hc hs) cf_6.2.1 (by decide) ho h rfl rfl w
theorem lm_X0_3 : Cond.methodLink RX0 3 Lib.objectInit ∈ gT := gT_mem (i := 252) (by decide +kernel) (by decide +kernel)
theorem k_X0_3 {G : GT} {Y : MD} {Z : ZT} {c0 s0 n pc : Nat} {μ : Mem} {L : List (Nat × AV)} {st : List AV} {a : Int} (hY : Y.1.cls = RX0) (hd : decode Y.2.1 pc = .ok (.invokespecial 3, 3)) (ha : 0 ≤ a) (hst : st.length ≤ 8) (hf : Nat.ble 1 Y.2.2.2.2.1 = true) (hlo : Nat.ble 20 Y.2.2.2.2.2.1 = true) (w : Wa G Y Z c0 s0 n μ (pc + 3) L st) : Wa G Y Z c0 s0 n μ pc L (.inr a :: st) :=
  a_objInit hd (by rw [hY]; exact lm_X0_3) oi_i oi_c ha hst (Nat.le_of_ble_eq_true hf) (Nat.le_of_ble_eq_true hlo) w
theorem lm_X0_17 : Cond.methodLink RX0 17 yX8_init ∈ gT := gT_mem (i := 254) (by decide +kernel) (by decide +kernel)
theorem k_X0_17 {G : GT} {Y : MD} {Z : ZT} {c0 s0 n pc : Nat} {μ : Mem} {L : List (Nat × AV)} {st : List AV} {a : Int} {x0 x1 : Int} {Q : Nat → Mem → Prop} (hY : Y.1.cls = RX0) (hd : decode Y.2.1 pc = .ok (.invokespecial 17, 3)) (hst : st.length ≤ 8) (hf : fitsB Y Y_X8_init = true) (hc : c0 + 1 ≤ Y.2.2.2.2.2.2.1) (hs : s0 + 800 ≤ Y.2.2.2.2.2.2.2) (ha : 0 ≤ a) (h : CV G Y_X8_init [.inr a, .inl x0, .inl x1] n μ Q) (w : ∀ (n' : Nat) (ν : Mem), Q n' ν → Wa G Y Z (c0 + 1) (s0 + 800) n' ν (pc + 3) L st) : Wa G Y Z c0 s0 n μ pc L (.inl x1 :: .inl x0 :: .inr a :: st) :=
  c_N (Yc := Y_X8_init) (As := [.inl x0, .inl x1]) rfl hd (by rw [hY]; exact lm_X0_17) mc_X8_init mi_X8_init rfl rfl hst (fits_of hf hc hs) ha h rfl rfl w
theorem lm_X0_47 : Cond.methodLink RX0 47 yX8_cut ∈ gT := gT_mem (i := 536) (by decide +kernel) (by decide +kernel)
theorem k_X0_47 {G : GT} {Y : MD} {Z : ZT} {c0 s0 n pc : Nat} {μ : Mem} {L : List (Nat × AV)} {st : List AV} {a : Int} {x0 : Int} {Q : Nat → Mem → Prop} (hY : Y.1.cls = RX0) (hd : decode Y.2.1 pc = .ok (.invokevirtual 47, 3)) (hst : st.length ≤ 8) (hf : fitsB Y Y_X8_cut = true) (hc : c0 + 0 ≤ Y.2.2.2.2.2.2.1) (hs : s0 + 0 ≤ Y.2.2.2.2.2.2.2) (ho : gx G n μ → 0 ≤ a ∧ a < n ∧ SH a = (8, 3)) (h : CV G Y_X8_cut [.inr a, .inl x0] n μ Q) (w : ∀ (n' : Nat) (ν : Mem), Q n' ν → Wa G Y Z c0 s0 n' ν (pc + 3) L st) : Wa G Y Z c0 s0 n μ pc L (.inl x0 :: .inr a :: st) :=
  c_VV (Yc := Y_X8_cut) (As := [.inl x0]) rfl hd (by rw [hY]; exact lm_X0_47) mc_X8_cut mi_X8_cut ms_X8_cut hst (fits_of hf hc hs) cf_8.2.1 (by decide) ho h rfl rfl w
theorem lm_X0_51 : Cond.methodLink RX0 51 yX0_start ∈ gT := gT_mem (i := 532) (by decide +kernel) (by decide +kernel)
theorem k_X0_51 {G : GT} {Y : MD} {Z : ZT} {c0 s0 n pc : Nat} {μ : Mem} {L : List (Nat × AV)} {st : List AV} {a : Int} {x0 x1 x2 x3 x4 : Int} {Q : Nat → Mem → Prop} (hY : Y.1.cls = RX0) (hd : decode Y.2.1 pc = .ok (.invokevirtual 51, 3)) (hst : st.length ≤ 8) (hf : fitsB Y Y_X0_start = true) (hc : c0 + 0 ≤ Y.2.2.2.2.2.2.1) (hs : s0 + 0 ≤ Y.2.2.2.2.2.2.2) (ho : gx G n μ → 0 ≤ a ∧ a < n ∧ SH a = (0, 9)) (h : CV G Y_X0_start [.inr a, .inl x0, .inl x1, .inl x2, .inl x3, .inl x4] n μ Q) (w : ∀ (n' : Nat) (ν : Mem), Q n' ν → Wa G Y Z c0 s0 n' ν (pc + 3) L st) : Wa G Y Z c0 s0 n μ pc L (.inl x4 :: .inl x3 :: .inl x2 :: .inl x1 :: .inl x0 :: .inr a :: st) :=
  c_VV (Yc := Y_X0_start) (As := [.inl x0, .inl x1, .inl x2, .inl x3, .inl x4]) rfl hd (by rw [hY]; exact lm_X0_51) mc_X0_start mi_X0_start ms_X0_start hst (fits_of hf hc hs) cf_0.2.1 (by decide) ho h rfl rfl w
theorem lm_X0_55 : Cond.methodLink RX0 55 yX8_copyFrom ∈ gT := gT_mem (i := 537) (by decide +kernel) (by decide +kernel)
theorem k_X0_55 {G : GT} {Y : MD} {Z : ZT} {c0 s0 n pc : Nat} {μ : Mem} {L : List (Nat × AV)} {st : List AV} {a : Int} {x0 : Int} {Q : Nat → Mem → Prop} (hY : Y.1.cls = RX0) (hd : decode Y.2.1 pc = .ok (.invokevirtual 55, 3)) (hst : st.length ≤ 8) (hf : fitsB Y Y_X8_copyFrom = true) (hc : c0 + 0 ≤ Y.2.2.2.2.2.2.1) (hs : s0 + 0 ≤ Y.2.2.2.2.2.2.2) (ho : gx G n μ → 0 ≤ a ∧ a < n ∧ SH a = (8, 3)) (h : CV G Y_X8_copyFrom [.inr a, .inr x0] n μ Q) (w : ∀ (n' : Nat) (ν : Mem), Q n' ν → Wa G Y Z c0 s0 n' ν (pc + 3) L st) : Wa G Y Z c0 s0 n μ pc L (.inr x0 :: .inr a :: st) :=
  c_VV (Yc := Y_X8_copyFrom) (As := [.inr x0]) rfl hd (by rw [hY]; exact lm_X0_55) mc_X8_copyFrom mi_X8_copyFrom ms_X8_copyFrom hst (fits_of hf hc hs) cf_8.2.1 (by decide) ho h rfl rfl w
theorem lm_X0_59 : Cond.methodLink RX0 59 yX0_lastNode ∈ gT := gT_mem (i := 572) (by decide +kernel) (by decide +kernel)
theorem k_X0_59 {G : GT} {Y : MD} {Z : ZT} {c0 s0 n pc : Nat} {μ : Mem} {L : List (Nat × AV)} {st : List AV} {a : Int} {Q : Int → Nat → Mem → Prop} (hY : Y.1.cls = RX0) (hd : decode Y.2.1 pc = .ok (.invokevirtual 59, 3)) (hst : st.length ≤ 8) (hf : fitsB Y Y_X0_lastNode = true) (hc : c0 + 0 ≤ Y.2.2.2.2.2.2.1) (hs : s0 + 0 ≤ Y.2.2.2.2.2.2.2) (ho : gx G n μ → 0 ≤ a ∧ a < n ∧ SH a = (0, 9)) (h : CI G Y_X0_lastNode [.inr a] n μ Q) (w : ∀ (x : Int) (n' : Nat) (ν : Mem), Q x n' ν → Wa G Y Z c0 s0 n' ν (pc + 3) L (.inl x :: st)) : Wa G Y Z c0 s0 n μ pc L (.inr a :: st) :=
  c_VI (Yc := Y_X0_lastNode) (As := []) rfl hd (by rw [hY]; exact lm_X0_59) mc_X0_lastNode mi_X0_lastNode ms_X0_lastNode hst (fits_of hf hc hs) cf_0.2.1 (by decide) ho h rfl rfl w
theorem lm_X0_66 : Cond.methodLink RX0 66 yX8_at ∈ gT := gT_mem (i := 576) (by decide +kernel) (by decide +kernel)
theorem k_X0_66 {G : GT} {Y : MD} {Z : ZT} {c0 s0 n pc : Nat} {μ : Mem} {L : List (Nat × AV)} {st : List AV} {a : Int} {x0 x1 : Int} {Q : Int → Nat → Mem → Prop} (hY : Y.1.cls = RX0) (hd : decode Y.2.1 pc = .ok (.invokevirtual 66, 3)) (hst : st.length ≤ 8) (hf : fitsB Y Y_X8_at = true) (hc : c0 + 0 ≤ Y.2.2.2.2.2.2.1) (hs : s0 + 0 ≤ Y.2.2.2.2.2.2.2) (ho : gx G n μ → 0 ≤ a ∧ a < n ∧ SH a = (8, 3)) (h : CI G Y_X8_at [.inr a, .inl x0, .inl x1] n μ Q) (w : ∀ (x : Int) (n' : Nat) (ν : Mem), Q x n' ν → Wa G Y Z c0 s0 n' ν (pc + 3) L (.inl x :: st)) : Wa G Y Z c0 s0 n μ pc L (.inl x1 :: .inl x0 :: .inr a :: st) :=
  c_VI (Yc := Y_X8_at) (As := [.inl x0, .inl x1]) rfl hd (by rw [hY]; exact lm_X0_66) mc_X8_at mi_X8_at ms_X8_at hst (fits_of hf hc hs) cf_8.2.1 (by decide) ho h rfl rfl w
theorem lm_X0_70 : Cond.methodLink RX0 70 yX3_contactAt ∈ gT := gT_mem (i := 577) (by decide +kernel) (by decide +kernel)
theorem k_X0_70 {G : GT} {Y : MD} {Z : ZT} {c0 s0 n pc : Nat} {μ : Mem} {L : List (Nat × AV)} {st : List AV} {a : Int} {x0 : Int} {Q : Int → Nat → Mem → Prop} (hY : Y.1.cls = RX0) (hd : decode Y.2.1 pc = .ok (.invokevirtual 70, 3)) (hst : st.length ≤ 8) (hf : fitsB Y Y_X3_contactAt = true) (hc : c0 + 0 ≤ Y.2.2.2.2.2.2.1) (hs : s0 + 0 ≤ Y.2.2.2.2.2.2.2) (ho : gx G n μ → 0 ≤ a ∧ a < n ∧ SH a = (3, 4)) (h : CR G Y_X3_contactAt [.inr a, .inl x0] n μ Q) (w : ∀ (x : Int) (n' : Nat) (ν : Mem), 0 ≤ x → Q x n' ν → Wa G Y Z c0 s0 n' ν (pc + 3) L (.inr x :: st)) : Wa G Y Z c0 s0 n μ pc L (.inl x0 :: .inr a :: st) :=
  c_VR (Yc := Y_X3_contactAt) (As := [.inl x0]) rfl hd (by rw [hY]; exact lm_X0_70) mc_X3_contactAt mi_X3_contactAt ms_X3_contactAt hst (fits_of hf hc hs) cf_3.2.1 (by decide) ho h rfl rfl w
theorem lm_X0_81 : Cond.methodLink RX0 81 yX0_standing ∈ gT := gT_mem (i := 743) (by decide +kernel) (by decide +kernel)
theorem k_X0_81 {G : GT} {Y : MD} {Z : ZT} {c0 s0 n pc : Nat} {μ : Mem} {L : List (Nat × AV)} {st : List AV} {a : Int} {x0 : Int} {Q : Int → Nat → Mem → Prop} (hY : Y.1.cls = RX0) (hd : decode Y.2.1 pc = .ok (.invokevirtual 81, 3)) (hst : st.length ≤ 8) (hf : fitsB Y Y_X0_standing = true) (hc : c0 + 0 ≤ Y.2.2.2.2.2.2.1) (hs : s0 + 0 ≤ Y.2.2.2.2.2.2.2) (ho : gx G n μ → 0 ≤ a ∧ a < n ∧ SH a = (0, 9)) (h : CI G Y_X0_standing [.inr a, .inl x0] n μ Q) (w : ∀ (x : Int) (n' : Nat) (ν : Mem), Q x n' ν → Wa G Y Z c0 s0 n' ν (pc + 3) L (.inl x :: st)) : Wa G Y Z c0 s0 n μ pc L (.inl x0 :: .inr a :: st) :=
  c_VI (Yc := Y_X0_standing) (As := [.inl x0]) rfl hd (by rw [hY]; exact lm_X0_81) mc_X0_standing mi_X0_standing ms_X0_standing hst (fits_of hf hc hs) cf_0.2.1 (by decide) ho h rfl rfl w
theorem lm_X0_85 : Cond.methodLink RX0 85 yX0_lastThere ∈ gT := gT_mem (i := 744) (by decide +kernel) (by decide +kernel)
theorem k_X0_85 {G : GT} {Y : MD} {Z : ZT} {c0 s0 n pc : Nat} {μ : Mem} {L : List (Nat × AV)} {st : List AV} {a : Int} {Q : Int → Nat → Mem → Prop} (hY : Y.1.cls = RX0) (hd : decode Y.2.1 pc = .ok (.invokevirtual 85, 3)) (hst : st.length ≤ 8) (hf : fitsB Y Y_X0_lastThere = true) (hc : c0 + 0 ≤ Y.2.2.2.2.2.2.1) (hs : s0 + 0 ≤ Y.2.2.2.2.2.2.2) (ho : gx G n μ → 0 ≤ a ∧ a < n ∧ SH a = (0, 9)) (h : CI G Y_X0_lastThere [.inr a] n μ Q) (w : ∀ (x : Int) (n' : Nat) (ν : Mem), Q x n' ν → Wa G Y Z c0 s0 n' ν (pc + 3) L (.inl x :: st)) : Wa G Y Z c0 s0 n μ pc L (.inr a :: st) :=
  c_VI (Yc := Y_X0_lastThere) (As := []) rfl hd (by rw [hY]; exact lm_X0_85) mc_X0_lastThere mi_X0_lastThere ms_X0_lastThere hst (fits_of hf hc hs) cf_0.2.1 (by decide) ho h rfl rfl w
theorem lm_X0_88 : Cond.methodLink RX0 88 yX0_giveUpHopsToCome ∈ gT := gT_mem (i := 674) (by decide +kernel) (by decide +kernel)
theorem k_X0_88 {G : GT} {Y : MD} {Z : ZT} {c0 s0 n pc : Nat} {μ : Mem} {L : List (Nat × AV)} {st : List AV} {a : Int} {x0 : Int} {Q : Nat → Mem → Prop} (hY : Y.1.cls = RX0) (hd : decode Y.2.1 pc = .ok (.invokevirtual 88, 3)) (hst : st.length ≤ 8) (hf : fitsB Y Y_X0_giveUpHopsToCome = true) (hc : c0 + 0 ≤ Y.2.2.2.2.2.2.1) (hs : s0 + 0 ≤ Y.2.2.2.2.2.2.2) (ho : gx G n μ → 0 ≤ a ∧ a < n ∧ SH a = (0, 9)) (h : CV G Y_X0_giveUpHopsToCome [.inr a, .inl x0] n μ Q) (w : ∀ (n' : Nat) (ν : Mem), Q n' ν → Wa G Y Z c0 s0 n' ν (pc + 3) L st) : Wa G Y Z c0 s0 n μ pc L (.inl x0 :: .inr a :: st) :=
  c_VV (Yc := Y_X0_giveUpHopsToCome) (As := [.inl x0]) rfl hd (by rw [hY]; exact lm_X0_88) mc_X0_giveUpHopsToCome mi_X0_giveUpHopsToCome ms_X0_giveUpHopsToCome hst (fits_of hf hc hs) cf_0.2.1 (by decide) ho h rfl rfl w
theorem lm_X0_91 : Cond.methodLink RX0 91 yX0_hopsOnTheirWay ∈ gT := gT_mem (i := 595) (by decide +kernel) (by decide +kernel)
theorem k_X0_91 {G : GT} {Y : MD} {Z : ZT} {c0 s0 n pc : Nat} {μ : Mem} {L : List (Nat × AV)} {st : List AV} {a : Int} {x0 : Int} {Q : Int → Nat → Mem → Prop} (hY : Y.1.cls = RX0) (hd : decode Y.2.1 pc = .ok (.invokevirtual 91, 3)) (hst : st.length ≤ 8) (hf : fitsB Y Y_X0_hopsOnTheirWay = true) (hc : c0 + 0 ≤ Y.2.2.2.2.2.2.1) (hs : s0 + 0 ≤ Y.2.2.2.2.2.2.2) (ho : gx G n μ → 0 ≤ a ∧ a < n ∧ SH a = (0, 9)) (h : CI G Y_X0_hopsOnTheirWay [.inr a, .inl x0] n μ Q) (w : ∀ (x : Int) (n' : Nat) (ν : Mem), Q x n' ν → Wa G Y Z c0 s0 n' ν (pc + 3) L (.inl x :: st)) : Wa G Y Z c0 s0 n μ pc L (.inl x0 :: .inr a :: st) :=
  c_VI (Yc := Y_X0_hopsOnTheirWay) (As := [.inl x0]) rfl hd (by rw [hY]; exact lm_X0_91) mc_X0_hopsOnTheirWay mi_X0_hopsOnTheirWay ms_X0_hopsOnTheirWay hst (fits_of hf hc hs) cf_0.2.1 (by decide) ho h rfl rfl w
theorem lm_X0_94 : Cond.methodLink RX0 94 yX8_removeFirstRow ∈ gT := gT_mem (i := 687) (by decide +kernel) (by decide +kernel)
theorem k_X0_94 {G : GT} {Y : MD} {Z : ZT} {c0 s0 n pc : Nat} {μ : Mem} {L : List (Nat × AV)} {st : List AV} {a : Int} {Q : Nat → Mem → Prop} (hY : Y.1.cls = RX0) (hd : decode Y.2.1 pc = .ok (.invokevirtual 94, 3)) (hst : st.length ≤ 8) (hf : fitsB Y Y_X8_removeFirstRow = true) (hc : c0 + 0 ≤ Y.2.2.2.2.2.2.1) (hs : s0 + 0 ≤ Y.2.2.2.2.2.2.2) (ho : gx G n μ → 0 ≤ a ∧ a < n ∧ SH a = (8, 3)) (h : CV G Y_X8_removeFirstRow [.inr a] n μ Q) (w : ∀ (n' : Nat) (ν : Mem), Q n' ν → Wa G Y Z c0 s0 n' ν (pc + 3) L st) : Wa G Y Z c0 s0 n μ pc L (.inr a :: st) :=
  c_VV (Yc := Y_X8_removeFirstRow) (As := []) rfl hd (by rw [hY]; exact lm_X0_94) mc_X8_removeFirstRow mi_X8_removeFirstRow ms_X8_removeFirstRow hst (fits_of hf hc hs) cf_8.2.1 (by decide) ho h rfl rfl w
theorem lm_X1_3 : Cond.methodLink RX1 3 Lib.objectInit ∈ gT := gT_mem (i := 116) (by decide +kernel) (by decide +kernel)
theorem k_X1_3 {G : GT} {Y : MD} {Z : ZT} {c0 s0 n pc : Nat} {μ : Mem} {L : List (Nat × AV)} {st : List AV} {a : Int} (hY : Y.1.cls = RX1) (hd : decode Y.2.1 pc = .ok (.invokespecial 3, 3)) (ha : 0 ≤ a) (hst : st.length ≤ 8) (hf : Nat.ble 1 Y.2.2.2.2.1 = true) (hlo : Nat.ble 20 Y.2.2.2.2.2.1 = true) (w : Wa G Y Z c0 s0 n μ (pc + 3) L st) : Wa G Y Z c0 s0 n μ pc L (.inr a :: st) :=
  a_objInit hd (by rw [hY]; exact lm_X1_3) oi_i oi_c ha hst (Nat.le_of_ble_eq_true hf) (Nat.le_of_ble_eq_true hlo) w
theorem lm_X2_3 : Cond.methodLink RX2 3 Lib.objectInit ∈ gT := gT_mem (i := 320) (by decide +kernel) (by decide +kernel)
theorem k_X2_3 {G : GT} {Y : MD} {Z : ZT} {c0 s0 n pc : Nat} {μ : Mem} {L : List (Nat × AV)} {st : List AV} {a : Int} (hY : Y.1.cls = RX2) (hd : decode Y.2.1 pc = .ok (.invokespecial 3, 3)) (ha : 0 ≤ a) (hst : st.length ≤ 8) (hf : Nat.ble 1 Y.2.2.2.2.1 = true) (hlo : Nat.ble 20 Y.2.2.2.2.2.1 = true) (w : Wa G Y Z c0 s0 n μ (pc + 3) L st) : Wa G Y Z c0 s0 n μ pc L (.inr a :: st) :=
  a_objInit hd (by rw [hY]; exact lm_X2_3) oi_i oi_c ha hst (Nat.le_of_ble_eq_true hf) (Nat.le_of_ble_eq_true hlo) w
theorem lm_X2_11 : Cond.methodLink RX2 11 yX7_init ∈ gT := gT_mem (i := 322) (by decide +kernel) (by decide +kernel)
theorem k_X2_11 {G : GT} {Y : MD} {Z : ZT} {c0 s0 n pc : Nat} {μ : Mem} {L : List (Nat × AV)} {st : List AV} {a : Int} {x0 : Int} {Q : Nat → Mem → Prop} (hY : Y.1.cls = RX2) (hd : decode Y.2.1 pc = .ok (.invokespecial 11, 3)) (hst : st.length ≤ 8) (hf : fitsB Y Y_X7_init = true) (hc : c0 + 28 ≤ Y.2.2.2.2.2.2.1) (hs : s0 + 7316 ≤ Y.2.2.2.2.2.2.2) (ha : 0 ≤ a) (h : CV G Y_X7_init [.inr a, .inr x0] n μ Q) (w : ∀ (n' : Nat) (ν : Mem), Q n' ν → Wa G Y Z (c0 + 28) (s0 + 7316) n' ν (pc + 3) L st) : Wa G Y Z c0 s0 n μ pc L (.inr x0 :: .inr a :: st) :=
  c_N (Yc := Y_X7_init) (As := [.inr x0]) rfl hd (by rw [hY]; exact lm_X2_11) mc_X7_init mi_X7_init rfl rfl hst (fits_of hf hc hs) ha h rfl rfl w
theorem lm_X2_31 : Cond.methodLink RX2 31 yX2_slotAt ∈ gT := gT_mem (i := 516) (by decide +kernel) (by decide +kernel)
theorem k_X2_31 {G : GT} {Y : MD} {Z : ZT} {c0 s0 n pc : Nat} {μ : Mem} {L : List (Nat × AV)} {st : List AV} {a : Int} {x0 : Int} {Q : Int → Nat → Mem → Prop} (hY : Y.1.cls = RX2) (hd : decode Y.2.1 pc = .ok (.invokevirtual 31, 3)) (hst : st.length ≤ 8) (hf : fitsB Y Y_X2_slotAt = true) (hc : c0 + 0 ≤ Y.2.2.2.2.2.2.1) (hs : s0 + 0 ≤ Y.2.2.2.2.2.2.2) (ho : gx G n μ → 0 ≤ a ∧ a < n ∧ SH a = (2, 4)) (h : CR G Y_X2_slotAt [.inr a, .inl x0] n μ Q) (w : ∀ (x : Int) (n' : Nat) (ν : Mem), 0 ≤ x → Q x n' ν → Wa G Y Z c0 s0 n' ν (pc + 3) L (.inr x :: st)) : Wa G Y Z c0 s0 n μ pc L (.inl x0 :: .inr a :: st) :=
  c_VR (Yc := Y_X2_slotAt) (As := [.inl x0]) rfl hd (by rw [hY]; exact lm_X2_31) mc_X2_slotAt mi_X2_slotAt ms_X2_slotAt hst (fits_of hf hc hs) cf_2.2.1 (by decide) ho h rfl rfl w
theorem lm_X2_35 : Cond.methodLink RX2 35 yX7_copyFrom ∈ gT := gT_mem (i := 520) (by decide +kernel) (by decide +kernel)
theorem k_X2_35 {G : GT} {Y : MD} {Z : ZT} {c0 s0 n pc : Nat} {μ : Mem} {L : List (Nat × AV)} {st : List AV} {a : Int} {x0 : Int} {Q : Nat → Mem → Prop} (hY : Y.1.cls = RX2) (hd : decode Y.2.1 pc = .ok (.invokevirtual 35, 3)) (hst : st.length ≤ 8) (hf : fitsB Y Y_X7_copyFrom = true) (hc : c0 + 0 ≤ Y.2.2.2.2.2.2.1) (hs : s0 + 0 ≤ Y.2.2.2.2.2.2.2) (ho : gx G n μ → 0 ≤ a ∧ a < n ∧ SH a = (7, 5)) (h : CV G Y_X7_copyFrom [.inr a, .inr x0] n μ Q) (w : ∀ (n' : Nat) (ν : Mem), Q n' ν → Wa G Y Z c0 s0 n' ν (pc + 3) L st) : Wa G Y Z c0 s0 n μ pc L (.inr x0 :: .inr a :: st) :=
  c_VV (Yc := Y_X7_copyFrom) (As := [.inr x0]) rfl hd (by rw [hY]; exact lm_X2_35) mc_X7_copyFrom mi_X7_copyFrom ms_X7_copyFrom hst (fits_of hf hc hs) cf_7.2.1 (by decide) ho h rfl rfl w
theorem lm_X2_39 : Cond.methodLink RX2 39 Lib.Math.min.name ∈ gT := gT_mem (i := 557) (by decide +kernel) (by decide +kernel)
theorem k_X2_39 {G : GT} {Y : MD} {Z : ZT} {c0 s0 n pc : Nat} {μ : Mem} {L : List (Nat × AV)} {st : List AV} {x y : Int} (hY : Y.1.cls = RX2) (hd : decode Y.2.1 pc = .ok (.invokestatic 39, 3)) (hst : st.length ≤ 7) (hf : Nat.ble 1 Y.2.2.2.2.1 = true) (hlo : Nat.ble 20 Y.2.2.2.2.2.1 = true) (hc : c0 ≤ Y.2.2.2.2.2.2.1) (hs : s0 ≤ Y.2.2.2.2.2.2.2) (w : Wa G Y Z c0 s0 n μ (pc + 3) L (.inl (if y < x then y else x) :: st)) : Wa G Y Z c0 s0 n μ pc L (.inl y :: .inl x :: st) :=
  a_min hd (by rw [hY]; exact lm_X2_39) ma_min_s ma_i ma_min_c hst (Nat.le_of_ble_eq_true hf) (Nat.le_of_ble_eq_true hlo) hc hs w
theorem lm_X3_3 : Cond.methodLink RX3 3 Lib.objectInit ∈ gT := gT_mem (i := 110) (by decide +kernel) (by decide +kernel)
theorem k_X3_3 {G : GT} {Y : MD} {Z : ZT} {c0 s0 n pc : Nat} {μ : Mem} {L : List (Nat × AV)} {st : List AV} {a : Int} (hY : Y.1.cls = RX3) (hd : decode Y.2.1 pc = .ok (.invokespecial 3, 3)) (ha : 0 ≤ a) (hst : st.length ≤ 8) (hf : Nat.ble 1 Y.2.2.2.2.1 = true) (hlo : Nat.ble 20 Y.2.2.2.2.2.1 = true) (w : Wa G Y Z c0 s0 n μ (pc + 3) L st) : Wa G Y Z c0 s0 n μ pc L (.inr a :: st) :=
  a_objInit hd (by rw [hY]; exact lm_X3_3) oi_i oi_c ha hst (Nat.le_of_ble_eq_true hf) (Nat.le_of_ble_eq_true hlo) w
theorem lm_X3_11 : Cond.methodLink RX3 11 yX1_init ∈ gT := gT_mem (i := 113) (by decide +kernel) (by decide +kernel)
theorem k_X3_11 {G : GT} {Y : MD} {Z : ZT} {c0 s0 n pc : Nat} {μ : Mem} {L : List (Nat × AV)} {st : List AV} {a : Int} {x0 x1 x2 x3 x4 x5 : Int} {Q : Nat → Mem → Prop} (hY : Y.1.cls = RX3) (hd : decode Y.2.1 pc = .ok (.invokespecial 11, 3)) (hst : st.length ≤ 8) (hf : fitsB Y Y_X1_init = true) (hc : c0 + 0 ≤ Y.2.2.2.2.2.2.1) (hs : s0 + 0 ≤ Y.2.2.2.2.2.2.2) (ha : 0 ≤ a) (h : CV G Y_X1_init [.inr a, .inl x0, .inl x1, .inl x2, .inl x3, .inl x4, .inl x5] n μ Q) (w : ∀ (n' : Nat) (ν : Mem), Q n' ν → Wa G Y Z c0 s0 n' ν (pc + 3) L st) : Wa G Y Z c0 s0 n μ pc L (.inl x5 :: .inl x4 :: .inl x3 :: .inl x2 :: .inl x1 :: .inl x0 :: .inr a :: st) :=
  c_N (Yc := Y_X1_init) (As := [.inl x0, .inl x1, .inl x2, .inl x3, .inl x4, .inl x5]) rfl hd (by rw [hY]; exact lm_X3_11) mc_X1_init mi_X1_init rfl rfl hst (fits_of hf hc hs) ha h rfl rfl w
theorem lm_X3_31 : Cond.methodLink RX3 31 yX3_contactAt ∈ gT := gT_mem (i := 465) (by decide +kernel) (by decide +kernel)
theorem k_X3_31 {G : GT} {Y : MD} {Z : ZT} {c0 s0 n pc : Nat} {μ : Mem} {L : List (Nat × AV)} {st : List AV} {a : Int} {x0 : Int} {Q : Int → Nat → Mem → Prop} (hY : Y.1.cls = RX3) (hd : decode Y.2.1 pc = .ok (.invokevirtual 31, 3)) (hst : st.length ≤ 8) (hf : fitsB Y Y_X3_contactAt = true) (hc : c0 + 0 ≤ Y.2.2.2.2.2.2.1) (hs : s0 + 0 ≤ Y.2.2.2.2.2.2.2) (ho : gx G n μ → 0 ≤ a ∧ a < n ∧ SH a = (3, 4)) (h : CR G Y_X3_contactAt [.inr a, .inl x0] n μ Q) (w : ∀ (x : Int) (n' : Nat) (ν : Mem), 0 ≤ x → Q x n' ν → Wa G Y Z c0 s0 n' ν (pc + 3) L (.inr x :: st)) : Wa G Y Z c0 s0 n μ pc L (.inl x0 :: .inr a :: st) :=
  c_VR (Yc := Y_X3_contactAt) (As := [.inl x0]) rfl hd (by rw [hY]; exact lm_X3_31) mc_X3_contactAt mi_X3_contactAt ms_X3_contactAt hst (fits_of hf hc hs) cf_3.2.1 (by decide) ho h rfl rfl w
theorem lm_X3_35 : Cond.methodLink RX3 35 yX3_addContact ∈ gT := gT_mem (i := 469) (by decide +kernel) (by decide +kernel)
theorem k_X3_35 {G : GT} {Y : MD} {Z : ZT} {c0 s0 n pc : Nat} {μ : Mem} {L : List (Nat × AV)} {st : List AV} {a : Int} {x0 : Int} {Q : Nat → Mem → Prop} (hY : Y.1.cls = RX3) (hd : decode Y.2.1 pc = .ok (.invokevirtual 35, 3)) (hst : st.length ≤ 8) (hf : fitsB Y Y_X3_addContact = true) (hc : c0 + 0 ≤ Y.2.2.2.2.2.2.1) (hs : s0 + 0 ≤ Y.2.2.2.2.2.2.2) (ho : gx G n μ → 0 ≤ a ∧ a < n ∧ SH a = (3, 4)) (h : CV G Y_X3_addContact [.inr a, .inr x0] n μ Q) (w : ∀ (n' : Nat) (ν : Mem), Q n' ν → Wa G Y Z c0 s0 n' ν (pc + 3) L st) : Wa G Y Z c0 s0 n μ pc L (.inr x0 :: .inr a :: st) :=
  c_VV (Yc := Y_X3_addContact) (As := [.inr x0]) rfl hd (by rw [hY]; exact lm_X3_35) mc_X3_addContact mi_X3_addContact ms_X3_addContact hst (fits_of hf hc hs) cf_3.2.1 (by decide) ho h rfl rfl w
theorem lm_X4_3 : Cond.methodLink RX4 3 Lib.objectInit ∈ gT := gT_mem (i := 104) (by decide +kernel) (by decide +kernel)
theorem k_X4_3 {G : GT} {Y : MD} {Z : ZT} {c0 s0 n pc : Nat} {μ : Mem} {L : List (Nat × AV)} {st : List AV} {a : Int} (hY : Y.1.cls = RX4) (hd : decode Y.2.1 pc = .ok (.invokespecial 3, 3)) (ha : 0 ≤ a) (hst : st.length ≤ 8) (hf : Nat.ble 1 Y.2.2.2.2.1 = true) (hlo : Nat.ble 20 Y.2.2.2.2.2.1 = true) (w : Wa G Y Z c0 s0 n μ (pc + 3) L st) : Wa G Y Z c0 s0 n μ pc L (.inr a :: st) :=
  a_objInit hd (by rw [hY]; exact lm_X4_3) oi_i oi_c ha hst (Nat.le_of_ble_eq_true hf) (Nat.le_of_ble_eq_true hlo) w
theorem lm_X4_17 : Cond.methodLink RX4 17 yX3_init ∈ gT := gT_mem (i := 107) (by decide +kernel) (by decide +kernel)
theorem k_X4_17 {G : GT} {Y : MD} {Z : ZT} {c0 s0 n pc : Nat} {μ : Mem} {L : List (Nat × AV)} {st : List AV} {a : Int} {Q : Nat → Mem → Prop} (hY : Y.1.cls = RX4) (hd : decode Y.2.1 pc = .ok (.invokespecial 17, 3)) (hst : st.length ≤ 8) (hf : fitsB Y Y_X3_init = true) (hc : c0 + 2 ≤ Y.2.2.2.2.2.2.1) (hs : s0 + 14 ≤ Y.2.2.2.2.2.2.2) (ha : 0 ≤ a) (h : CV G Y_X3_init [.inr a] n μ Q) (w : ∀ (n' : Nat) (ν : Mem), Q n' ν → Wa G Y Z (c0 + 2) (s0 + 14) n' ν (pc + 3) L st) : Wa G Y Z c0 s0 n μ pc L (.inr a :: st) :=
  c_N (Yc := Y_X3_init) (As := []) rfl hd (by rw [hY]; exact lm_X4_17) mc_X3_init mi_X3_init rfl rfl hst (fits_of hf hc hs) ha h rfl rfl w
theorem lm_X4_29 : Cond.methodLink RX4 29 yX3_reset ∈ gT := gT_mem (i := 408) (by decide +kernel) (by decide +kernel)
theorem k_X4_29 {G : GT} {Y : MD} {Z : ZT} {c0 s0 n pc : Nat} {μ : Mem} {L : List (Nat × AV)} {st : List AV} {a : Int} {Q : Nat → Mem → Prop} (hY : Y.1.cls = RX4) (hd : decode Y.2.1 pc = .ok (.invokevirtual 29, 3)) (hst : st.length ≤ 8) (hf : fitsB Y Y_X3_reset = true) (hc : c0 + 0 ≤ Y.2.2.2.2.2.2.1) (hs : s0 + 0 ≤ Y.2.2.2.2.2.2.2) (ho : gx G n μ → 0 ≤ a ∧ a < n ∧ SH a = (3, 4)) (h : CV G Y_X3_reset [.inr a] n μ Q) (w : ∀ (n' : Nat) (ν : Mem), Q n' ν → Wa G Y Z c0 s0 n' ν (pc + 3) L st) : Wa G Y Z c0 s0 n μ pc L (.inr a :: st) :=
  c_VV (Yc := Y_X3_reset) (As := []) rfl hd (by rw [hY]; exact lm_X4_29) mc_X3_reset mi_X3_reset ms_X3_reset hst (fits_of hf hc hs) cf_3.2.1 (by decide) ho h rfl rfl w
theorem lm_X4_32 : Cond.methodLink RX4 32 yX4_skipBlanks ∈ gT := gT_mem (i := 412) (by decide +kernel) (by decide +kernel)
theorem k_X4_32 {G : GT} {Y : MD} {Z : ZT} {c0 s0 n pc : Nat} {μ : Mem} {L : List (Nat × AV)} {st : List AV} {a : Int} {Q : Nat → Mem → Prop} (hY : Y.1.cls = RX4) (hd : decode Y.2.1 pc = .ok (.invokevirtual 32, 3)) (hst : st.length ≤ 8) (hf : fitsB Y Y_X4_skipBlanks = true) (hc : c0 + 0 ≤ Y.2.2.2.2.2.2.1) (hs : s0 + 0 ≤ Y.2.2.2.2.2.2.2) (ho : gx G n μ → 0 ≤ a ∧ a < n ∧ SH a = (4, 4)) (h : CV G Y_X4_skipBlanks [.inr a] n μ Q) (w : ∀ (n' : Nat) (ν : Mem), Q n' ν → Wa G Y Z c0 s0 n' ν (pc + 3) L st) : Wa G Y Z c0 s0 n μ pc L (.inr a :: st) :=
  c_VV (Yc := Y_X4_skipBlanks) (As := []) rfl hd (by rw [hY]; exact lm_X4_32) mc_X4_skipBlanks mi_X4_skipBlanks ms_X4_skipBlanks hst (fits_of hf hc hs) cf_4.2.1 (by decide) ho h rfl rfl w
theorem lm_X4_40 : Cond.methodLink RX4 40 yX4_readItem ∈ gT := gT_mem (i := 420) (by decide +kernel) (by decide +kernel)
theorem k_X4_40 {G : GT} {Y : MD} {Z : ZT} {c0 s0 n pc : Nat} {μ : Mem} {L : List (Nat × AV)} {st : List AV} {a : Int} {x0 : Int} {Q : Nat → Mem → Prop} (hY : Y.1.cls = RX4) (hd : decode Y.2.1 pc = .ok (.invokevirtual 40, 3)) (hst : st.length ≤ 8) (hf : fitsB Y Y_X4_readItem = true) (hc : c0 + 1 ≤ Y.2.2.2.2.2.2.1) (hs : s0 + 6 ≤ Y.2.2.2.2.2.2.2) (ho : gx G n μ → 0 ≤ a ∧ a < n ∧ SH a = (4, 4)) (h : CV G Y_X4_readItem [.inr a, .inl x0] n μ Q) (w : ∀ (n' : Nat) (ν : Mem), Q n' ν → Wa G Y Z (c0 + 1) (s0 + 6) n' ν (pc + 3) L st) : Wa G Y Z c0 s0 n μ pc L (.inl x0 :: .inr a :: st) :=
  c_VV (Yc := Y_X4_readItem) (As := [.inl x0]) rfl hd (by rw [hY]; exact lm_X4_40) mc_X4_readItem mi_X4_readItem ms_X4_readItem hst (fits_of hf hc hs) cf_4.2.1 (by decide) ho h rfl rfl w
theorem lm_X4_44 : Cond.methodLink RX4 44 yX9_byteAt ∈ gT := gT_mem (i := 416) (by decide +kernel) (by decide +kernel)
theorem k_X4_44 {G : GT} {Y : MD} {Z : ZT} {c0 s0 n pc : Nat} {μ : Mem} {L : List (Nat × AV)} {st : List AV} {a : Int} {x0 : Int} {Q : Int → Nat → Mem → Prop} (hY : Y.1.cls = RX4) (hd : decode Y.2.1 pc = .ok (.invokevirtual 44, 3)) (hst : st.length ≤ 8) (hf : fitsB Y Y_X9_byteAt = true) (hc : c0 + 0 ≤ Y.2.2.2.2.2.2.1) (hs : s0 + 0 ≤ Y.2.2.2.2.2.2.2) (ho : gx G n μ → 0 ≤ a ∧ a < n ∧ SH a = (9, 2)) (h : CI G Y_X9_byteAt [.inr a, .inl x0] n μ Q) (w : ∀ (x : Int) (n' : Nat) (ν : Mem), Q x n' ν → Wa G Y Z c0 s0 n' ν (pc + 3) L (.inl x :: st)) : Wa G Y Z c0 s0 n μ pc L (.inl x0 :: .inr a :: st) :=
  c_VI (Yc := Y_X9_byteAt) (As := [.inl x0]) rfl hd (by rw [hY]; exact lm_X4_44) mc_X9_byteAt mi_X9_byteAt ms_X9_byteAt hst (fits_of hf hc hs) cf_9.2.1 (by decide) ho h rfl rfl w
theorem lm_X4_48 : Cond.methodLink RX4 48 yX4_readNodes ∈ gT := gT_mem (i := 424) (by decide +kernel) (by decide +kernel)
theorem k_X4_48 {G : GT} {Y : MD} {Z : ZT} {c0 s0 n pc : Nat} {μ : Mem} {L : List (Nat × AV)} {st : List AV} {a : Int} {Q : Nat → Mem → Prop} (hY : Y.1.cls = RX4) (hd : decode Y.2.1 pc = .ok (.invokevirtual 48, 3)) (hst : st.length ≤ 8) (hf : fitsB Y Y_X4_readNodes = true) (hc : c0 + 0 ≤ Y.2.2.2.2.2.2.1) (hs : s0 + 0 ≤ Y.2.2.2.2.2.2.2) (ho : gx G n μ → 0 ≤ a ∧ a < n ∧ SH a = (4, 4)) (h : CV G Y_X4_readNodes [.inr a] n μ Q) (w : ∀ (n' : Nat) (ν : Mem), Q n' ν → Wa G Y Z c0 s0 n' ν (pc + 3) L st) : Wa G Y Z c0 s0 n μ pc L (.inr a :: st) :=
  c_VV (Yc := Y_X4_readNodes) (As := []) rfl hd (by rw [hY]; exact lm_X4_48) mc_X4_readNodes mi_X4_readNodes ms_X4_readNodes hst (fits_of hf hc hs) cf_4.2.1 (by decide) ho h rfl rfl w
theorem lm_X4_51 : Cond.methodLink RX4 51 yX3_hasRoom ∈ gT := gT_mem (i := 447) (by decide +kernel) (by decide +kernel)
theorem k_X4_51 {G : GT} {Y : MD} {Z : ZT} {c0 s0 n pc : Nat} {μ : Mem} {L : List (Nat × AV)} {st : List AV} {a : Int} {Q : Int → Nat → Mem → Prop} (hY : Y.1.cls = RX4) (hd : decode Y.2.1 pc = .ok (.invokevirtual 51, 3)) (hst : st.length ≤ 8) (hf : fitsB Y Y_X3_hasRoom = true) (hc : c0 + 0 ≤ Y.2.2.2.2.2.2.1) (hs : s0 + 0 ≤ Y.2.2.2.2.2.2.2) (ho : gx G n μ → 0 ≤ a ∧ a < n ∧ SH a = (3, 4)) (h : CI G Y_X3_hasRoom [.inr a] n μ Q) (w : ∀ (x : Int) (n' : Nat) (ν : Mem), Q x n' ν → Wa G Y Z c0 s0 n' ν (pc + 3) L (.inl x :: st)) : Wa G Y Z c0 s0 n μ pc L (.inr a :: st) :=
  c_VI (Yc := Y_X3_hasRoom) (As := []) rfl hd (by rw [hY]; exact lm_X4_51) mc_X3_hasRoom mi_X3_hasRoom ms_X3_hasRoom hst (fits_of hf hc hs) cf_3.2.1 (by decide) ho h rfl rfl w
theorem lm_X4_55 : Cond.methodLink RX4 55 yX4_readContact ∈ gT := gT_mem (i := 451) (by decide +kernel) (by decide +kernel)
theorem k_X4_55 {G : GT} {Y : MD} {Z : ZT} {c0 s0 n pc : Nat} {μ : Mem} {L : List (Nat × AV)} {st : List AV} {a : Int} {Q : Nat → Mem → Prop} (hY : Y.1.cls = RX4) (hd : decode Y.2.1 pc = .ok (.invokevirtual 55, 3)) (hst : st.length ≤ 8) (hf : fitsB Y Y_X4_readContact = true) (hc : c0 + 1 ≤ Y.2.2.2.2.2.2.1) (hs : s0 + 6 ≤ Y.2.2.2.2.2.2.2) (ho : gx G n μ → 0 ≤ a ∧ a < n ∧ SH a = (4, 4)) (h : CV G Y_X4_readContact [.inr a] n μ Q) (w : ∀ (n' : Nat) (ν : Mem), Q n' ν → Wa G Y Z (c0 + 1) (s0 + 6) n' ν (pc + 3) L st) : Wa G Y Z c0 s0 n μ pc L (.inr a :: st) :=
  c_VV (Yc := Y_X4_readContact) (As := []) rfl hd (by rw [hY]; exact lm_X4_55) mc_X4_readContact mi_X4_readContact ms_X4_readContact hst (fits_of hf hc hs) cf_4.2.1 (by decide) ho h rfl rfl w
theorem lm_X4_58 : Cond.methodLink RX4 58 yX4_blame ∈ gT := gT_mem (i := 439) (by decide +kernel) (by decide +kernel)
theorem k_X4_58 {G : GT} {Y : MD} {Z : ZT} {c0 s0 n pc : Nat} {μ : Mem} {L : List (Nat × AV)} {st : List AV} {a : Int} {x0 : Int} {Q : Nat → Mem → Prop} (hY : Y.1.cls = RX4) (hd : decode Y.2.1 pc = .ok (.invokevirtual 58, 3)) (hst : st.length ≤ 8) (hf : fitsB Y Y_X4_blame = true) (hc : c0 + 0 ≤ Y.2.2.2.2.2.2.1) (hs : s0 + 0 ≤ Y.2.2.2.2.2.2.2) (ho : gx G n μ → 0 ≤ a ∧ a < n ∧ SH a = (4, 4)) (h : CV G Y_X4_blame [.inr a, .inl x0] n μ Q) (w : ∀ (n' : Nat) (ν : Mem), Q n' ν → Wa G Y Z c0 s0 n' ν (pc + 3) L st) : Wa G Y Z c0 s0 n μ pc L (.inl x0 :: .inr a :: st) :=
  c_VV (Yc := Y_X4_blame) (As := [.inl x0]) rfl hd (by rw [hY]; exact lm_X4_58) mc_X4_blame mi_X4_blame ms_X4_blame hst (fits_of hf hc hs) cf_4.2.1 (by decide) ho h rfl rfl w
theorem lm_X4_62 : Cond.methodLink RX4 62 yX4_readNumber ∈ gT := gT_mem (i := 428) (by decide +kernel) (by decide +kernel)
theorem k_X4_62 {G : GT} {Y : MD} {Z : ZT} {c0 s0 n pc : Nat} {μ : Mem} {L : List (Nat × AV)} {st : List AV} {a : Int} {x0 x1 x2 : Int} {Q : Int → Nat → Mem → Prop} (hY : Y.1.cls = RX4) (hd : decode Y.2.1 pc = .ok (.invokevirtual 62, 3)) (hst : st.length ≤ 8) (hf : fitsB Y Y_X4_readNumber = true) (hc : c0 + 0 ≤ Y.2.2.2.2.2.2.1) (hs : s0 + 0 ≤ Y.2.2.2.2.2.2.2) (ho : gx G n μ → 0 ≤ a ∧ a < n ∧ SH a = (4, 4)) (h : CI G Y_X4_readNumber [.inr a, .inl x0, .inl x1, .inl x2] n μ Q) (w : ∀ (x : Int) (n' : Nat) (ν : Mem), Q x n' ν → Wa G Y Z c0 s0 n' ν (pc + 3) L (.inl x :: st)) : Wa G Y Z c0 s0 n μ pc L (.inl x2 :: .inl x1 :: .inl x0 :: .inr a :: st) :=
  c_VI (Yc := Y_X4_readNumber) (As := [.inl x0, .inl x1, .inl x2]) rfl hd (by rw [hY]; exact lm_X4_62) mc_X4_readNumber mi_X4_readNumber ms_X4_readNumber hst (fits_of hf hc hs) cf_4.2.1 (by decide) ho h rfl rfl w
theorem lm_X4_66 : Cond.methodLink RX4 66 yX4_readSemicolon ∈ gT := gT_mem (i := 443) (by decide +kernel) (by decide +kernel)
theorem k_X4_66 {G : GT} {Y : MD} {Z : ZT} {c0 s0 n pc : Nat} {μ : Mem} {L : List (Nat × AV)} {st : List AV} {a : Int} {Q : Nat → Mem → Prop} (hY : Y.1.cls = RX4) (hd : decode Y.2.1 pc = .ok (.invokevirtual 66, 3)) (hst : st.length ≤ 8) (hf : fitsB Y Y_X4_readSemicolon = true) (hc : c0 + 0 ≤ Y.2.2.2.2.2.2.1) (hs : s0 + 0 ≤ Y.2.2.2.2.2.2.2) (ho : gx G n μ → 0 ≤ a ∧ a < n ∧ SH a = (4, 4)) (h : CV G Y_X4_readSemicolon [.inr a] n μ Q) (w : ∀ (n' : Nat) (ν : Mem), Q n' ν → Wa G Y Z c0 s0 n' ν (pc + 3) L st) : Wa G Y Z c0 s0 n μ pc L (.inr a :: st) :=
  c_VV (Yc := Y_X4_readSemicolon) (As := []) rfl hd (by rw [hY]; exact lm_X4_66) mc_X4_readSemicolon mi_X4_readSemicolon ms_X4_readSemicolon hst (fits_of hf hc hs) cf_4.2.1 (by decide) ho h rfl rfl w
theorem lm_X4_74 : Cond.methodLink RX4 74 yX1_init ∈ gT := gT_mem (i := 456) (by decide +kernel) (by decide +kernel)
theorem k_X4_74 {G : GT} {Y : MD} {Z : ZT} {c0 s0 n pc : Nat} {μ : Mem} {L : List (Nat × AV)} {st : List AV} {a : Int} {x0 x1 x2 x3 x4 x5 : Int} {Q : Nat → Mem → Prop} (hY : Y.1.cls = RX4) (hd : decode Y.2.1 pc = .ok (.invokespecial 74, 3)) (hst : st.length ≤ 8) (hf : fitsB Y Y_X1_init = true) (hc : c0 + 0 ≤ Y.2.2.2.2.2.2.1) (hs : s0 + 0 ≤ Y.2.2.2.2.2.2.2) (ha : 0 ≤ a) (h : CV G Y_X1_init [.inr a, .inl x0, .inl x1, .inl x2, .inl x3, .inl x4, .inl x5] n μ Q) (w : ∀ (n' : Nat) (ν : Mem), Q n' ν → Wa G Y Z c0 s0 n' ν (pc + 3) L st) : Wa G Y Z c0 s0 n μ pc L (.inl x5 :: .inl x4 :: .inl x3 :: .inl x2 :: .inl x1 :: .inl x0 :: .inr a :: st) :=
  c_N (Yc := Y_X1_init) (As := [.inl x0, .inl x1, .inl x2, .inl x3, .inl x4, .inl x5]) rfl hd (by rw [hY]; exact lm_X4_74) mc_X1_init mi_X1_init rfl rfl hst (fits_of hf hc hs) ha h rfl rfl w
theorem lm_X4_77 : Cond.methodLink RX4 77 yX3_addContact ∈ gT := gT_mem (i := 457) (by decide +kernel) (by decide +kernel)
theorem k_X4_77 {G : GT} {Y : MD} {Z : ZT} {c0 s0 n pc : Nat} {μ : Mem} {L : List (Nat × AV)} {st : List AV} {a : Int} {x0 : Int} {Q : Nat → Mem → Prop} (hY : Y.1.cls = RX4) (hd : decode Y.2.1 pc = .ok (.invokevirtual 77, 3)) (hst : st.length ≤ 8) (hf : fitsB Y Y_X3_addContact = true) (hc : c0 + 0 ≤ Y.2.2.2.2.2.2.1) (hs : s0 + 0 ≤ Y.2.2.2.2.2.2.2) (ho : gx G n μ → 0 ≤ a ∧ a < n ∧ SH a = (3, 4)) (h : CV G Y_X3_addContact [.inr a, .inr x0] n μ Q) (w : ∀ (n' : Nat) (ν : Mem), Q n' ν → Wa G Y Z c0 s0 n' ν (pc + 3) L st) : Wa G Y Z c0 s0 n μ pc L (.inr x0 :: .inr a :: st) :=
  c_VV (Yc := Y_X3_addContact) (As := [.inr x0]) rfl hd (by rw [hY]; exact lm_X4_77) mc_X3_addContact mi_X3_addContact ms_X3_addContact hst (fits_of hf hc hs) cf_3.2.1 (by decide) ho h rfl rfl w
theorem lm_X4_81 : Cond.methodLink RX4 81 yX4_isDigit ∈ gT := gT_mem (i := 432) (by decide +kernel) (by decide +kernel)
theorem k_X4_81 {G : GT} {Y : MD} {Z : ZT} {c0 s0 n pc : Nat} {μ : Mem} {L : List (Nat × AV)} {st : List AV} {x0 : Int} {Q : Int → Nat → Mem → Prop} (hY : Y.1.cls = RX4) (hd : decode Y.2.1 pc = .ok (.invokestatic 81, 3)) (hst : st.length ≤ 8) (hf : fitsB Y Y_X4_isDigit = true) (hc : c0 + 0 ≤ Y.2.2.2.2.2.2.1) (hs : s0 + 0 ≤ Y.2.2.2.2.2.2.2) (h : CI G Y_X4_isDigit [.inl x0] n μ Q) (w : ∀ (x : Int) (n' : Nat) (ν : Mem), Q x n' ν → Wa G Y Z c0 s0 n' ν (pc + 3) L (.inl x :: st)) : Wa G Y Z c0 s0 n μ pc L (.inl x0 :: st) :=
  c_SI (Yc := Y_X4_isDigit) (As := [.inl x0]) rfl hd (by rw [hY]; exact lm_X4_81) mc_X4_isDigit mt_X4_isDigit hst (fits_of hf hc hs) h rfl rfl w
theorem lm_X4_85 : Cond.methodLink RX4 85 Lib.Math.min.name ∈ gT := gT_mem (i := 435) (by decide +kernel) (by decide +kernel)
theorem k_X4_85 {G : GT} {Y : MD} {Z : ZT} {c0 s0 n pc : Nat} {μ : Mem} {L : List (Nat × AV)} {st : List AV} {x y : Int} (hY : Y.1.cls = RX4) (hd : decode Y.2.1 pc = .ok (.invokestatic 85, 3)) (hst : st.length ≤ 7) (hf : Nat.ble 1 Y.2.2.2.2.1 = true) (hlo : Nat.ble 20 Y.2.2.2.2.2.1 = true) (hc : c0 ≤ Y.2.2.2.2.2.2.1) (hs : s0 ≤ Y.2.2.2.2.2.2.2) (w : Wa G Y Z c0 s0 n μ (pc + 3) L (.inl (if y < x then y else x) :: st)) : Wa G Y Z c0 s0 n μ pc L (.inl y :: .inl x :: st) :=
  a_min hd (by rw [hY]; exact lm_X4_85) ma_min_s ma_i ma_min_c hst (Nat.le_of_ble_eq_true hf) (Nat.le_of_ble_eq_true hlo) hc hs w
theorem lm_X4_91 : Cond.methodLinkNest RX4 91 yX10_isWithin "ContactWays" ∈ gN := gN_mem (i := 438) (by decide +kernel) (by decide +kernel)
theorem k_X4_91 {G : GT} {Y : MD} {Z : ZT} {c0 s0 n pc : Nat} {μ : Mem} {L : List (Nat × AV)} {st : List AV} {x0 x1 x2 : Int} {Q : Int → Nat → Mem → Prop} (hY : Y.1.cls = RX4) (hd : decode Y.2.1 pc = .ok (.invokestatic 91, 3)) (hst : st.length ≤ 8) (hf : fitsB Y Y_X10_isWithin = true) (hc : c0 + 0 ≤ Y.2.2.2.2.2.2.1) (hs : s0 + 0 ≤ Y.2.2.2.2.2.2.2) (h : CI G Y_X10_isWithin [.inl x0, .inl x1, .inl x2] n μ Q) (w : ∀ (x : Int) (n' : Nat) (ν : Mem), Q x n' ν → Wa G Y Z c0 s0 n' ν (pc + 3) L (.inl x :: st)) : Wa G Y Z c0 s0 n μ pc L (.inl x2 :: .inl x1 :: .inl x0 :: st) :=
  c_SNI (Yc := Y_X10_isWithin) (As := [.inl x0, .inl x1, .inl x2]) rfl hd (by rw [hY]; exact lm_X4_91) mc_X10_isWithin mt_X10_isWithin hst (fits_of hf hc hs) h rfl rfl w
theorem lm_X5_3 : Cond.methodLink RX5 3 Lib.objectInit ∈ gT := gT_mem (i := 236) (by decide +kernel) (by decide +kernel)
theorem k_X5_3 {G : GT} {Y : MD} {Z : ZT} {c0 s0 n pc : Nat} {μ : Mem} {L : List (Nat × AV)} {st : List AV} {a : Int} (hY : Y.1.cls = RX5) (hd : decode Y.2.1 pc = .ok (.invokespecial 3, 3)) (ha : 0 ≤ a) (hst : st.length ≤ 8) (hf : Nat.ble 1 Y.2.2.2.2.1 = true) (hlo : Nat.ble 20 Y.2.2.2.2.2.1 = true) (w : Wa G Y Z c0 s0 n μ (pc + 3) L st) : Wa G Y Z c0 s0 n μ pc L (.inr a :: st) :=
  a_objInit hd (by rw [hY]; exact lm_X5_3) oi_i oi_c ha hst (Nat.le_of_ble_eq_true hf) (Nat.le_of_ble_eq_true hlo) w
theorem lm_X5_15 : Cond.methodLink RX5 15 yX5_firstOf ∈ gT := gT_mem (i := 582) (by decide +kernel) (by decide +kernel)
theorem k_X5_15 {G : GT} {Y : MD} {Z : ZT} {c0 s0 n pc : Nat} {μ : Mem} {L : List (Nat × AV)} {st : List AV} {a : Int} {x0 x1 : Int} {Q : Int → Nat → Mem → Prop} (hY : Y.1.cls = RX5) (hd : decode Y.2.1 pc = .ok (.invokevirtual 15, 3)) (hst : st.length ≤ 8) (hf : fitsB Y Y_X5_firstOf = true) (hc : c0 + 0 ≤ Y.2.2.2.2.2.2.1) (hs : s0 + 0 ≤ Y.2.2.2.2.2.2.2) (ho : gx G n μ → 0 ≤ a ∧ a < n ∧ SH a = (5, 1)) (h : CI G Y_X5_firstOf [.inr a, .inr x0, .inl x1] n μ Q) (w : ∀ (x : Int) (n' : Nat) (ν : Mem), Q x n' ν → Wa G Y Z c0 s0 n' ν (pc + 3) L (.inl x :: st)) : Wa G Y Z c0 s0 n μ pc L (.inl x1 :: .inr x0 :: .inr a :: st) :=
  c_VI (Yc := Y_X5_firstOf) (As := [.inr x0, .inl x1]) rfl hd (by rw [hY]; exact lm_X5_15) mc_X5_firstOf mi_X5_firstOf ms_X5_firstOf hst (fits_of hf hc hs) cf_5.2.1 (by decide) ho h rfl rfl w
theorem lm_X5_19 : Cond.methodLink RX5 19 yX5_planOne ∈ gT := gT_mem (i := 587) (by decide +kernel) (by decide +kernel)
theorem k_X5_19 {G : GT} {Y : MD} {Z : ZT} {c0 s0 n pc : Nat} {μ : Mem} {L : List (Nat × AV)} {st : List AV} {a : Int} {x0 x1 : Int} {Q : Int → Nat → Mem → Prop} (hY : Y.1.cls = RX5) (hd : decode Y.2.1 pc = .ok (.invokevirtual 19, 3)) (hst : st.length ≤ 8) (hf : fitsB Y Y_X5_planOne = true) (hc : c0 + 0 ≤ Y.2.2.2.2.2.2.1) (hs : s0 + 0 ≤ Y.2.2.2.2.2.2.2) (ho : gx G n μ → 0 ≤ a ∧ a < n ∧ SH a = (5, 1)) (h : CI G Y_X5_planOne [.inr a, .inr x0, .inl x1] n μ Q) (w : ∀ (x : Int) (n' : Nat) (ν : Mem), Q x n' ν → Wa G Y Z c0 s0 n' ν (pc + 3) L (.inl x :: st)) : Wa G Y Z c0 s0 n μ pc L (.inl x1 :: .inr x0 :: .inr a :: st) :=
  c_VI (Yc := Y_X5_planOne) (As := [.inr x0, .inl x1]) rfl hd (by rw [hY]; exact lm_X5_19) mc_X5_planOne mi_X5_planOne ms_X5_planOne hst (fits_of hf hc hs) cf_5.2.1 (by decide) ho h rfl rfl w
theorem lm_X5_23 : Cond.methodLink RX5 23 yX5_pushOut ∈ gT := gT_mem (i := 649) (by decide +kernel) (by decide +kernel)
theorem k_X5_23 {G : GT} {Y : MD} {Z : ZT} {c0 s0 n pc : Nat} {μ : Mem} {L : List (Nat × AV)} {st : List AV} {a : Int} {x0 x1 : Int} {Q : Int → Nat → Mem → Prop} (hY : Y.1.cls = RX5) (hd : decode Y.2.1 pc = .ok (.invokevirtual 23, 3)) (hst : st.length ≤ 8) (hf : fitsB Y Y_X5_pushOut = true) (hc : c0 + 0 ≤ Y.2.2.2.2.2.2.1) (hs : s0 + 0 ≤ Y.2.2.2.2.2.2.2) (ho : gx G n μ → 0 ≤ a ∧ a < n ∧ SH a = (5, 1)) (h : CI G Y_X5_pushOut [.inr a, .inr x0, .inl x1] n μ Q) (w : ∀ (x : Int) (n' : Nat) (ν : Mem), Q x n' ν → Wa G Y Z c0 s0 n' ν (pc + 3) L (.inl x :: st)) : Wa G Y Z c0 s0 n μ pc L (.inl x1 :: .inr x0 :: .inr a :: st) :=
  c_VI (Yc := Y_X5_pushOut) (As := [.inr x0, .inl x1]) rfl hd (by rw [hY]; exact lm_X5_23) mc_X5_pushOut mi_X5_pushOut ms_X5_pushOut hst (fits_of hf hc hs) cf_5.2.1 (by decide) ho h rfl rfl w
theorem lm_X5_32 : Cond.methodLink RX5 32 yX7_bundleAt ∈ gT := gT_mem (i := 586) (by decide +kernel) (by decide +kernel)
theorem k_X5_32 {G : GT} {Y : MD} {Z : ZT} {c0 s0 n pc : Nat} {μ : Mem} {L : List (Nat × AV)} {st : List AV} {a : Int} {x0 : Int} {Q : Int → Nat → Mem → Prop} (hY : Y.1.cls = RX5) (hd : decode Y.2.1 pc = .ok (.invokevirtual 32, 3)) (hst : st.length ≤ 8) (hf : fitsB Y Y_X7_bundleAt = true) (hc : c0 + 0 ≤ Y.2.2.2.2.2.2.1) (hs : s0 + 0 ≤ Y.2.2.2.2.2.2.2) (ho : gx G n μ → 0 ≤ a ∧ a < n ∧ SH a = (7, 5)) (h : CR G Y_X7_bundleAt [.inr a, .inl x0] n μ Q) (w : ∀ (x : Int) (n' : Nat) (ν : Mem), 0 ≤ x → Q x n' ν → Wa G Y Z c0 s0 n' ν (pc + 3) L (.inr x :: st)) : Wa G Y Z c0 s0 n μ pc L (.inl x0 :: .inr a :: st) :=
  c_VR (Yc := Y_X7_bundleAt) (As := [.inl x0]) rfl hd (by rw [hY]; exact lm_X5_32) mc_X7_bundleAt mi_X7_bundleAt ms_X7_bundleAt hst (fits_of hf hc hs) cf_7.2.1 (by decide) ho h rfl rfl w
theorem lm_X5_44 : Cond.methodLink RX5 44 yX0_giveUpHopsToCome ∈ gT := gT_mem (i := 591) (by decide +kernel) (by decide +kernel)
theorem k_X5_44 {G : GT} {Y : MD} {Z : ZT} {c0 s0 n pc : Nat} {μ : Mem} {L : List (Nat × AV)} {st : List AV} {a : Int} {x0 : Int} {Q : Nat → Mem → Prop} (hY : Y.1.cls = RX5) (hd : decode Y.2.1 pc = .ok (.invokevirtual 44, 3)) (hst : st.length ≤ 8) (hf : fitsB Y Y_X0_giveUpHopsToCome = true) (hc : c0 + 0 ≤ Y.2.2.2.2.2.2.1) (hs : s0 + 0 ≤ Y.2.2.2.2.2.2.2) (ho : gx G n μ → 0 ≤ a ∧ a < n ∧ SH a = (0, 9)) (h : CV G Y_X0_giveUpHopsToCome [.inr a, .inl x0] n μ Q) (w : ∀ (n' : Nat) (ν : Mem), Q n' ν → Wa G Y Z c0 s0 n' ν (pc + 3) L st) : Wa G Y Z c0 s0 n μ pc L (.inl x0 :: .inr a :: st) :=
  c_VV (Yc := Y_X0_giveUpHopsToCome) (As := [.inl x0]) rfl hd (by rw [hY]; exact lm_X5_44) mc_X0_giveUpHopsToCome mi_X0_giveUpHopsToCome ms_X0_giveUpHopsToCome hst (fits_of hf hc hs) cf_0.2.1 (by decide) ho h rfl rfl w
theorem lm_X5_48 : Cond.methodLink RX5 48 yX0_lastNode ∈ gT := gT_mem (i := 599) (by decide +kernel) (by decide +kernel)
theorem k_X5_48 {G : GT} {Y : MD} {Z : ZT} {c0 s0 n pc : Nat} {μ : Mem} {L : List (Nat × AV)} {st : List AV} {a : Int} {Q : Int → Nat → Mem → Prop} (hY : Y.1.cls = RX5) (hd : decode Y.2.1 pc = .ok (.invokevirtual 48, 3)) (hst : st.length ≤ 8) (hf : fitsB Y Y_X0_lastNode = true) (hc : c0 + 0 ≤ Y.2.2.2.2.2.2.1) (hs : s0 + 0 ≤ Y.2.2.2.2.2.2.2) (ho : gx G n μ → 0 ≤ a ∧ a < n ∧ SH a = (0, 9)) (h : CI G Y_X0_lastNode [.inr a] n μ Q) (w : ∀ (x : Int) (n' : Nat) (ν : Mem), Q x n' ν → Wa G Y Z c0 s0 n' ν (pc + 3) L (.inl x :: st)) : Wa G Y Z c0 s0 n μ pc L (.inr a :: st) :=
  c_VI (Yc := Y_X0_lastNode) (As := []) rfl hd (by rw [hY]; exact lm_X5_48) mc_X0_lastNode mi_X0_lastNode ms_X0_lastNode hst (fits_of hf hc hs) cf_0.2.1 (by decide) ho h rfl rfl w
theorem lm_X5_64 : Cond.methodLink RX5 64 yX0_lastThere ∈ gT := gT_mem (i := 600) (by decide +kernel) (by decide +kernel)
theorem k_X5_64 {G : GT} {Y : MD} {Z : ZT} {c0 s0 n pc : Nat} {μ : Mem} {L : List (Nat × AV)} {st : List AV} {a : Int} {Q : Int → Nat → Mem → Prop} (hY : Y.1.cls = RX5) (hd : decode Y.2.1 pc = .ok (.invokevirtual 64, 3)) (hst : st.length ≤ 8) (hf : fitsB Y Y_X0_lastThere = true) (hc : c0 + 0 ≤ Y.2.2.2.2.2.2.1) (hs : s0 + 0 ≤ Y.2.2.2.2.2.2.2) (ho : gx G n μ → 0 ≤ a ∧ a < n ∧ SH a = (0, 9)) (h : CI G Y_X0_lastThere [.inr a] n μ Q) (w : ∀ (x : Int) (n' : Nat) (ν : Mem), Q x n' ν → Wa G Y Z c0 s0 n' ν (pc + 3) L (.inl x :: st)) : Wa G Y Z c0 s0 n μ pc L (.inr a :: st) :=
  c_VI (Yc := Y_X0_lastThere) (As := []) rfl hd (by rw [hY]; exact lm_X5_64) mc_X0_lastThere mi_X0_lastThere ms_X0_lastThere hst (fits_of hf hc hs) cf_0.2.1 (by decide) ho h rfl rfl w
theorem lm_X5_67 : Cond.methodLink RX5 67 yX6_lookAt ∈ gT := gT_mem (i := 604) (by decide +kernel) (by decide +kernel)
theorem k_X5_67 {G : GT} {Y : MD} {Z : ZT} {c0 s0 n pc : Nat} {μ : Mem} {L : List (Nat × AV)} {st : List AV} {a : Int} {x0 x1 : Int} {Q : Nat → Mem → Prop} (hY : Y.1.cls = RX5) (hd : decode Y.2.1 pc = .ok (.invokevirtual 67, 3)) (hst : st.length ≤ 8) (hf : fitsB Y Y_X6_lookAt = true) (hc : c0 + 0 ≤ Y.2.2.2.2.2.2.1) (hs : s0 + 0 ≤ Y.2.2.2.2.2.2.2) (ho : gx G n μ → 0 ≤ a ∧ a < n ∧ SH a = (6, 8)) (h : CV G Y_X6_lookAt [.inr a, .inr x0, .inl x1] n μ Q) (w : ∀ (n' : Nat) (ν : Mem), Q n' ν → Wa G Y Z c0 s0 n' ν (pc + 3) L st) : Wa G Y Z c0 s0 n μ pc L (.inl x1 :: .inr x0 :: .inr a :: st) :=
  c_VV (Yc := Y_X6_lookAt) (As := [.inr x0, .inl x1]) rfl hd (by rw [hY]; exact lm_X5_67) mc_X6_lookAt mi_X6_lookAt ms_X6_lookAt hst (fits_of hf hc hs) cf_6.2.1 (by decide) ho h rfl rfl w
theorem lm_X5_76 : Cond.methodLink RX5 76 yX6_seek ∈ gT := gT_mem (i := 628) (by decide +kernel) (by decide +kernel)
theorem k_X5_76 {G : GT} {Y : MD} {Z : ZT} {c0 s0 n pc : Nat} {μ : Mem} {L : List (Nat × AV)} {st : List AV} {a : Int} {x0 x1 x2 x3 x4 : Int} {Q : Int → Nat → Mem → Prop} (hY : Y.1.cls = RX5) (hd : decode Y.2.1 pc = .ok (.invokevirtual 76, 3)) (hst : st.length ≤ 8) (hf : fitsB Y Y_X6_seek = true) (hc : c0 + 0 ≤ Y.2.2.2.2.2.2.1) (hs : s0 + 0 ≤ Y.2.2.2.2.2.2.2) (ho : gx G n μ → 0 ≤ a ∧ a < n ∧ SH a = (6, 8)) (h : CI G Y_X6_seek [.inr a, .inl x0, .inl x1, .inl x2, .inl x3, .inl x4] n μ Q) (w : ∀ (x : Int) (n' : Nat) (ν : Mem), Q x n' ν → Wa G Y Z c0 s0 n' ν (pc + 3) L (.inl x :: st)) : Wa G Y Z c0 s0 n μ pc L (.inl x4 :: .inl x3 :: .inl x2 :: .inl x1 :: .inl x0 :: .inr a :: st) :=
  c_VI (Yc := Y_X6_seek) (As := [.inl x0, .inl x1, .inl x2, .inl x3, .inl x4]) rfl hd (by rw [hY]; exact lm_X5_76) mc_X6_seek mi_X6_seek ms_X6_seek hst (fits_of hf hc hs) cf_6.2.1 (by decide) ho h rfl rfl w
theorem lm_X5_89 : Cond.methodLink RX5 89 yX8_appendFrom ∈ gT := gT_mem (i := 648) (by decide +kernel) (by decide +kernel)
theorem k_X5_89 {G : GT} {Y : MD} {Z : ZT} {c0 s0 n pc : Nat} {μ : Mem} {L : List (Nat × AV)} {st : List AV} {a : Int} {x0 : Int} {Q : Nat → Mem → Prop} (hY : Y.1.cls = RX5) (hd : decode Y.2.1 pc = .ok (.invokevirtual 89, 3)) (hst : st.length ≤ 8) (hf : fitsB Y Y_X8_appendFrom = true) (hc : c0 + 0 ≤ Y.2.2.2.2.2.2.1) (hs : s0 + 0 ≤ Y.2.2.2.2.2.2.2) (ho : gx G n μ → 0 ≤ a ∧ a < n ∧ SH a = (8, 3)) (h : CV G Y_X8_appendFrom [.inr a, .inr x0] n μ Q) (w : ∀ (n' : Nat) (ν : Mem), Q n' ν → Wa G Y Z c0 s0 n' ν (pc + 3) L st) : Wa G Y Z c0 s0 n μ pc L (.inr x0 :: .inr a :: st) :=
  c_VV (Yc := Y_X8_appendFrom) (As := [.inr x0]) rfl hd (by rw [hY]; exact lm_X5_89) mc_X8_appendFrom mi_X8_appendFrom ms_X8_appendFrom hst (fits_of hf hc hs) cf_8.2.1 (by decide) ho h rfl rfl w
theorem lm_X5_93 : Cond.methodLink RX5 93 yX0_standsInTheWayOf ∈ gT := gT_mem (i := 653) (by decide +kernel) (by decide +kernel)
theorem k_X5_93 {G : GT} {Y : MD} {Z : ZT} {c0 s0 n pc : Nat} {μ : Mem} {L : List (Nat × AV)} {st : List AV} {a : Int} {x0 x1 : Int} {Q : Int → Nat → Mem → Prop} (hY : Y.1.cls = RX5) (hd : decode Y.2.1 pc = .ok (.invokevirtual 93, 3)) (hst : st.length ≤ 8) (hf : fitsB Y Y_X0_standsInTheWayOf = true) (hc : c0 + 0 ≤ Y.2.2.2.2.2.2.1) (hs : s0 + 0 ≤ Y.2.2.2.2.2.2.2) (ho : gx G n μ → 0 ≤ a ∧ a < n ∧ SH a = (0, 9)) (h : CI G Y_X0_standsInTheWayOf [.inr a, .inr x0, .inl x1] n μ Q) (w : ∀ (x : Int) (n' : Nat) (ν : Mem), Q x n' ν → Wa G Y Z c0 s0 n' ν (pc + 3) L (.inl x :: st)) : Wa G Y Z c0 s0 n μ pc L (.inl x1 :: .inr x0 :: .inr a :: st) :=
  c_VI (Yc := Y_X0_standsInTheWayOf) (As := [.inr x0, .inl x1]) rfl hd (by rw [hY]; exact lm_X5_93) mc_X0_standsInTheWayOf mi_X0_standsInTheWayOf ms_X0_standsInTheWayOf hst (fits_of hf hc hs) cf_0.2.1 (by decide) ho h rfl rfl w
theorem lm_X6_3 : Cond.methodLink RX6 3 Lib.objectInit ∈ gT := gT_mem (i := 181) (by decide +kernel) (by decide +kernel)
theorem k_X6_3 {G : GT} {Y : MD} {Z : ZT} {c0 s0 n pc : Nat} {μ : Mem} {L : List (Nat × AV)} {st : List AV} {a : Int} (hY : Y.1.cls = RX6) (hd : decode Y.2.1 pc = .ok (.invokespecial 3, 3)) (ha : 0 ≤ a) (hst : st.length ≤ 8) (hf : Nat.ble 1 Y.2.2.2.2.1 = true) (hlo : Nat.ble 20 Y.2.2.2.2.2.1 = true) (w : Wa G Y Z c0 s0 n μ (pc + 3) L st) : Wa G Y Z c0 s0 n μ pc L (.inr a :: st) :=
  a_objInit hd (by rw [hY]; exact lm_X6_3) oi_i oi_c ha hst (Nat.le_of_ble_eq_true hf) (Nat.le_of_ble_eq_true hlo) w
theorem lm_X6_17 : Cond.methodLink RX6 17 yX8_init ∈ gT := gT_mem (i := 184) (by decide +kernel) (by decide +kernel)
theorem k_X6_17 {G : GT} {Y : MD} {Z : ZT} {c0 s0 n pc : Nat} {μ : Mem} {L : List (Nat × AV)} {st : List AV} {a : Int} {x0 x1 : Int} {Q : Nat → Mem → Prop} (hY : Y.1.cls = RX6) (hd : decode Y.2.1 pc = .ok (.invokespecial 17, 3)) (hst : st.length ≤ 8) (hf : fitsB Y Y_X8_init = true) (hc : c0 + 1 ≤ Y.2.2.2.2.2.2.1) (hs : s0 + 800 ≤ Y.2.2.2.2.2.2.2) (ha : 0 ≤ a) (h : CV G Y_X8_init [.inr a, .inl x0, .inl x1] n μ Q) (w : ∀ (n' : Nat) (ν : Mem), Q n' ν → Wa G Y Z (c0 + 1) (s0 + 800) n' ν (pc + 3) L st) : Wa G Y Z c0 s0 n μ pc L (.inl x1 :: .inl x0 :: .inr a :: st) :=
  c_N (Yc := Y_X8_init) (As := [.inl x0, .inl x1]) rfl hd (by rw [hY]; exact lm_X6_17) mc_X8_init mi_X8_init rfl rfl hst (fits_of hf hc hs) ha h rfl rfl w
theorem lm_X6_34 : Cond.methodLink RX6 34 yX6_openWindows ∈ gT := gT_mem (i := 608) (by decide +kernel) (by decide +kernel)
theorem k_X6_34 {G : GT} {Y : MD} {Z : ZT} {c0 s0 n pc : Nat} {μ : Mem} {L : List (Nat × AV)} {st : List AV} {a : Int} {x0 : Int} {Q : Nat → Mem → Prop} (hY : Y.1.cls = RX6) (hd : decode Y.2.1 pc = .ok (.invokevirtual 34, 3)) (hst : st.length ≤ 8) (hf : fitsB Y Y_X6_openWindows = true) (hc : c0 + 0 ≤ Y.2.2.2.2.2.2.1) (hs : s0 + 0 ≤ Y.2.2.2.2.2.2.2) (ho : gx G n μ → 0 ≤ a ∧ a < n ∧ SH a = (6, 8)) (h : CV G Y_X6_openWindows [.inr a, .inr x0] n μ Q) (w : ∀ (n' : Nat) (ν : Mem), Q n' ν → Wa G Y Z c0 s0 n' ν (pc + 3) L st) : Wa G Y Z c0 s0 n μ pc L (.inr x0 :: .inr a :: st) :=
  c_VV (Yc := Y_X6_openWindows) (As := [.inr x0]) rfl hd (by rw [hY]; exact lm_X6_34) mc_X6_openWindows mi_X6_openWindows ms_X6_openWindows hst (fits_of hf hc hs) cf_6.2.1 (by decide) ho h rfl rfl w
theorem lm_X6_43 : Cond.methodLink RX6 43 yX7_bundleAt ∈ gT := gT_mem (i := 618) (by decide +kernel) (by decide +kernel)
theorem k_X6_43 {G : GT} {Y : MD} {Z : ZT} {c0 s0 n pc : Nat} {μ : Mem} {L : List (Nat × AV)} {st : List AV} {a : Int} {x0 : Int} {Q : Int → Nat → Mem → Prop} (hY : Y.1.cls = RX6) (hd : decode Y.2.1 pc = .ok (.invokevirtual 43, 3)) (hst : st.length ≤ 8) (hf : fitsB Y Y_X7_bundleAt = true) (hc : c0 + 0 ≤ Y.2.2.2.2.2.2.1) (hs : s0 + 0 ≤ Y.2.2.2.2.2.2.2) (ho : gx G n μ → 0 ≤ a ∧ a < n ∧ SH a = (7, 5)) (h : CR G Y_X7_bundleAt [.inr a, .inl x0] n μ Q) (w : ∀ (x : Int) (n' : Nat) (ν : Mem), 0 ≤ x → Q x n' ν → Wa G Y Z c0 s0 n' ν (pc + 3) L (.inr x :: st)) : Wa G Y Z c0 s0 n μ pc L (.inl x0 :: .inr a :: st) :=
  c_VR (Yc := Y_X7_bundleAt) (As := [.inl x0]) rfl hd (by rw [hY]; exact lm_X6_43) mc_X7_bundleAt mi_X7_bundleAt ms_X7_bundleAt hst (fits_of hf hc hs) cf_7.2.1 (by decide) ho h rfl rfl w
theorem lm_X6_55 : Cond.methodLink RX6 55 yX8_at ∈ gT := gT_mem (i := 619) (by decide +kernel) (by decide +kernel)
theorem k_X6_55 {G : GT} {Y : MD} {Z : ZT} {c0 s0 n pc : Nat} {μ : Mem} {L : List (Nat × AV)} {st : List AV} {a : Int} {x0 x1 : Int} {Q : Int → Nat → Mem → Prop} (hY : Y.1.cls = RX6) (hd : decode Y.2.1 pc = .ok (.invokevirtual 55, 3)) (hst : st.length ≤ 8) (hf : fitsB Y Y_X8_at = true) (hc : c0 + 0 ≤ Y.2.2.2.2.2.2.1) (hs : s0 + 0 ≤ Y.2.2.2.2.2.2.2) (ho : gx G n μ → 0 ≤ a ∧ a < n ∧ SH a = (8, 3)) (h : CI G Y_X8_at [.inr a, .inl x0, .inl x1] n μ Q) (w : ∀ (x : Int) (n' : Nat) (ν : Mem), Q x n' ν → Wa G Y Z c0 s0 n' ν (pc + 3) L (.inl x :: st)) : Wa G Y Z c0 s0 n μ pc L (.inl x1 :: .inl x0 :: .inr a :: st) :=
  c_VI (Yc := Y_X8_at) (As := [.inl x0, .inl x1]) rfl hd (by rw [hY]; exact lm_X6_55) mc_X8_at mi_X8_at ms_X8_at hst (fits_of hf hc hs) cf_8.2.1 (by decide) ho h rfl rfl w
theorem lm_X6_65 : Cond.methodLink RX6 65 yX6_closeTicks ∈ gT := gT_mem (i := 620) (by decide +kernel) (by decide +kernel)
theorem k_X6_65 {G : GT} {Y : MD} {Z : ZT} {c0 s0 n pc : Nat} {μ : Mem} {L : List (Nat × AV)} {st : List AV} {a : Int} {x0 x1 : Int} {Q : Nat → Mem → Prop} (hY : Y.1.cls = RX6) (hd : decode Y.2.1 pc = .ok (.invokevirtual 65, 3)) (hst : st.length ≤ 8) (hf : fitsB Y Y_X6_closeTicks = true) (hc : c0 + 0 ≤ Y.2.2.2.2.2.2.1) (hs : s0 + 0 ≤ Y.2.2.2.2.2.2.2) (ho : gx G n μ → 0 ≤ a ∧ a < n ∧ SH a = (6, 8)) (h : CV G Y_X6_closeTicks [.inr a, .inr x0, .inl x1] n μ Q) (w : ∀ (n' : Nat) (ν : Mem), Q n' ν → Wa G Y Z c0 s0 n' ν (pc + 3) L st) : Wa G Y Z c0 s0 n μ pc L (.inl x1 :: .inr x0 :: .inr a :: st) :=
  c_VV (Yc := Y_X6_closeTicks) (As := [.inr x0, .inl x1]) rfl hd (by rw [hY]; exact lm_X6_65) mc_X6_closeTicks mi_X6_closeTicks ms_X6_closeTicks hst (fits_of hf hc hs) cf_6.2.1 (by decide) ho h rfl rfl w
theorem lm_X6_69 : Cond.methodLink RX6 69 yX6_countRuns ∈ gT := gT_mem (i := 624) (by decide +kernel) (by decide +kernel)
theorem k_X6_69 {G : GT} {Y : MD} {Z : ZT} {c0 s0 n pc : Nat} {μ : Mem} {L : List (Nat × AV)} {st : List AV} {a : Int} {Q : Nat → Mem → Prop} (hY : Y.1.cls = RX6) (hd : decode Y.2.1 pc = .ok (.invokevirtual 69, 3)) (hst : st.length ≤ 8) (hf : fitsB Y Y_X6_countRuns = true) (hc : c0 + 0 ≤ Y.2.2.2.2.2.2.1) (hs : s0 + 0 ≤ Y.2.2.2.2.2.2.2) (ho : gx G n μ → 0 ≤ a ∧ a < n ∧ SH a = (6, 8)) (h : CV G Y_X6_countRuns [.inr a] n μ Q) (w : ∀ (n' : Nat) (ν : Mem), Q n' ν → Wa G Y Z c0 s0 n' ν (pc + 3) L st) : Wa G Y Z c0 s0 n μ pc L (.inr a :: st) :=
  c_VV (Yc := Y_X6_countRuns) (As := []) rfl hd (by rw [hY]; exact lm_X6_69) mc_X6_countRuns mi_X6_countRuns ms_X6_countRuns hst (fits_of hf hc hs) cf_6.2.1 (by decide) ho h rfl rfl w
theorem lm_X6_72 : Cond.methodLink RX6 72 yX8_cut ∈ gT := gT_mem (i := 612) (by decide +kernel) (by decide +kernel)
theorem k_X6_72 {G : GT} {Y : MD} {Z : ZT} {c0 s0 n pc : Nat} {μ : Mem} {L : List (Nat × AV)} {st : List AV} {a : Int} {x0 : Int} {Q : Nat → Mem → Prop} (hY : Y.1.cls = RX6) (hd : decode Y.2.1 pc = .ok (.invokevirtual 72, 3)) (hst : st.length ≤ 8) (hf : fitsB Y Y_X8_cut = true) (hc : c0 + 0 ≤ Y.2.2.2.2.2.2.1) (hs : s0 + 0 ≤ Y.2.2.2.2.2.2.2) (ho : gx G n μ → 0 ≤ a ∧ a < n ∧ SH a = (8, 3)) (h : CV G Y_X8_cut [.inr a, .inl x0] n μ Q) (w : ∀ (n' : Nat) (ν : Mem), Q n' ν → Wa G Y Z c0 s0 n' ν (pc + 3) L st) : Wa G Y Z c0 s0 n μ pc L (.inl x0 :: .inr a :: st) :=
  c_VV (Yc := Y_X8_cut) (As := [.inl x0]) rfl hd (by rw [hY]; exact lm_X6_72) mc_X8_cut mi_X8_cut ms_X8_cut hst (fits_of hf hc hs) cf_8.2.1 (by decide) ho h rfl rfl w
theorem lm_X6_81 : Cond.methodLink RX6 81 yX3_contactAt ∈ gT := gT_mem (i := 613) (by decide +kernel) (by decide +kernel)
theorem k_X6_81 {G : GT} {Y : MD} {Z : ZT} {c0 s0 n pc : Nat} {μ : Mem} {L : List (Nat × AV)} {st : List AV} {a : Int} {x0 : Int} {Q : Int → Nat → Mem → Prop} (hY : Y.1.cls = RX6) (hd : decode Y.2.1 pc = .ok (.invokevirtual 81, 3)) (hst : st.length ≤ 8) (hf : fitsB Y Y_X3_contactAt = true) (hc : c0 + 0 ≤ Y.2.2.2.2.2.2.1) (hs : s0 + 0 ≤ Y.2.2.2.2.2.2.2) (ho : gx G n μ → 0 ≤ a ∧ a < n ∧ SH a = (3, 4)) (h : CR G Y_X3_contactAt [.inr a, .inl x0] n μ Q) (w : ∀ (x : Int) (n' : Nat) (ν : Mem), 0 ≤ x → Q x n' ν → Wa G Y Z c0 s0 n' ν (pc + 3) L (.inr x :: st)) : Wa G Y Z c0 s0 n μ pc L (.inl x0 :: .inr a :: st) :=
  c_VR (Yc := Y_X3_contactAt) (As := [.inl x0]) rfl hd (by rw [hY]; exact lm_X6_81) mc_X3_contactAt mi_X3_contactAt ms_X3_contactAt hst (fits_of hf hc hs) cf_3.2.1 (by decide) ho h rfl rfl w
theorem lm_X6_90 : Cond.methodLink RX6 90 Lib.Math.max.name ∈ gT := gT_mem (i := 614) (by decide +kernel) (by decide +kernel)
theorem k_X6_90 {G : GT} {Y : MD} {Z : ZT} {c0 s0 n pc : Nat} {μ : Mem} {L : List (Nat × AV)} {st : List AV} {x y : Int} (hY : Y.1.cls = RX6) (hd : decode Y.2.1 pc = .ok (.invokestatic 90, 3)) (hst : st.length ≤ 7) (hf : Nat.ble 1 Y.2.2.2.2.1 = true) (hlo : Nat.ble 20 Y.2.2.2.2.2.1 = true) (hc : c0 ≤ Y.2.2.2.2.2.2.1) (hs : s0 ≤ Y.2.2.2.2.2.2.2) (w : Wa G Y Z c0 s0 n μ (pc + 3) L (.inl (if x < y then y else x) :: st)) : Wa G Y Z c0 s0 n μ pc L (.inl y :: .inl x :: st) :=
  a_max hd (by rw [hY]; exact lm_X6_90) ma_max_s ma_i ma_max_c hst (Nat.le_of_ble_eq_true hf) (Nat.le_of_ble_eq_true hlo) hc hs w
theorem lm_X6_95 : Cond.methodLink RX6 95 yX7_isMissed ∈ gT := gT_mem (i := 615) (by decide +kernel) (by decide +kernel)
theorem k_X6_95 {G : GT} {Y : MD} {Z : ZT} {c0 s0 n pc : Nat} {μ : Mem} {L : List (Nat × AV)} {st : List AV} {a : Int} {x0 : Int} {Q : Int → Nat → Mem → Prop} (hY : Y.1.cls = RX6) (hd : decode Y.2.1 pc = .ok (.invokevirtual 95, 3)) (hst : st.length ≤ 8) (hf : fitsB Y Y_X7_isMissed = true) (hc : c0 + 0 ≤ Y.2.2.2.2.2.2.1) (hs : s0 + 0 ≤ Y.2.2.2.2.2.2.2) (ho : gx G n μ → 0 ≤ a ∧ a < n ∧ SH a = (7, 5)) (h : CI G Y_X7_isMissed [.inr a, .inl x0] n μ Q) (w : ∀ (x : Int) (n' : Nat) (ν : Mem), Q x n' ν → Wa G Y Z c0 s0 n' ν (pc + 3) L (.inl x :: st)) : Wa G Y Z c0 s0 n μ pc L (.inl x0 :: .inr a :: st) :=
  c_VI (Yc := Y_X7_isMissed) (As := [.inl x0]) rfl hd (by rw [hY]; exact lm_X6_95) mc_X7_isMissed mi_X7_isMissed ms_X7_isMissed hst (fits_of hf hc hs) cf_7.2.1 (by decide) ho h rfl rfl w
theorem lm_X6_102 : Cond.methodLink RX6 102 yX8_addRow ∈ gT := gT_mem (i := 616) (by decide +kernel) (by decide +kernel)
theorem k_X6_102 {G : GT} {Y : MD} {Z : ZT} {c0 s0 n pc : Nat} {μ : Mem} {L : List (Nat × AV)} {st : List AV} {a : Int} {Q : Int → Nat → Mem → Prop} (hY : Y.1.cls = RX6) (hd : decode Y.2.1 pc = .ok (.invokevirtual 102, 3)) (hst : st.length ≤ 8) (hf : fitsB Y Y_X8_addRow = true) (hc : c0 + 0 ≤ Y.2.2.2.2.2.2.1) (hs : s0 + 0 ≤ Y.2.2.2.2.2.2.2) (ho : gx G n μ → 0 ≤ a ∧ a < n ∧ SH a = (8, 3)) (h : CI G Y_X8_addRow [.inr a] n μ Q) (w : ∀ (x : Int) (n' : Nat) (ν : Mem), Q x n' ν → Wa G Y Z c0 s0 n' ν (pc + 3) L (.inl x :: st)) : Wa G Y Z c0 s0 n μ pc L (.inr a :: st) :=
  c_VI (Yc := Y_X8_addRow) (As := []) rfl hd (by rw [hY]; exact lm_X6_102) mc_X8_addRow mi_X8_addRow ms_X8_addRow hst (fits_of hf hc hs) cf_8.2.1 (by decide) ho h rfl rfl w
theorem lm_X6_106 : Cond.methodLink RX6 106 yX8_put ∈ gT := gT_mem (i := 617) (by decide +kernel) (by decide +kernel)
theorem k_X6_106 {G : GT} {Y : MD} {Z : ZT} {c0 s0 n pc : Nat} {μ : Mem} {L : List (Nat × AV)} {st : List AV} {a : Int} {x0 x1 x2 : Int} {Q : Nat → Mem → Prop} (hY : Y.1.cls = RX6) (hd : decode Y.2.1 pc = .ok (.invokevirtual 106, 3)) (hst : st.length ≤ 8) (hf : fitsB Y Y_X8_put = true) (hc : c0 + 0 ≤ Y.2.2.2.2.2.2.1) (hs : s0 + 0 ≤ Y.2.2.2.2.2.2.2) (ho : gx G n μ → 0 ≤ a ∧ a < n ∧ SH a = (8, 3)) (h : CV G Y_X8_put [.inr a, .inl x0, .inl x1, .inl x2] n μ Q) (w : ∀ (n' : Nat) (ν : Mem), Q n' ν → Wa G Y Z c0 s0 n' ν (pc + 3) L st) : Wa G Y Z c0 s0 n μ pc L (.inl x2 :: .inl x1 :: .inl x0 :: .inr a :: st) :=
  c_VV (Yc := Y_X8_put) (As := [.inl x0, .inl x1, .inl x2]) rfl hd (by rw [hY]; exact lm_X6_106) mc_X8_put mi_X8_put ms_X8_put hst (fits_of hf hc hs) cf_8.2.1 (by decide) ho h rfl rfl w
theorem lm_X6_119 : Cond.methodLink RX6 119 yX6_explore ∈ gT := gT_mem (i := 632) (by decide +kernel) (by decide +kernel)
theorem k_X6_119 {G : GT} {Y : MD} {Z : ZT} {c0 s0 n pc : Nat} {μ : Mem} {L : List (Nat × AV)} {st : List AV} {d : Nat} {x0 x1 x2 x3 x4 : Int} {Q : Nat → Mem → Prop} (hY : Y.1.cls = RX6) (hd : decode Y.2.1 pc = .ok (.invokestatic 119, 3)) (hst : st.length ≤ 8) (hf : fitsB Y (Y_X6_explore d) = true) (hc : c0 + 0 ≤ Y.2.2.2.2.2.2.1) (hs : s0 + 0 ≤ Y.2.2.2.2.2.2.2) (h : CV G (Y_X6_explore d) [.inr x0, .inl x1, .inl x2, .inl x3, .inl x4] n μ Q) (w : ∀ (n' : Nat) (ν : Mem), Q n' ν → Wa G Y Z c0 s0 n' ν (pc + 3) L st) : Wa G Y Z c0 s0 n μ pc L (.inl x4 :: .inl x3 :: .inl x2 :: .inl x1 :: .inr x0 :: st) :=
  c_SV (Yc := (Y_X6_explore d)) (As := [.inr x0, .inl x1, .inl x2, .inl x3, .inl x4]) rfl hd (by rw [hY]; exact lm_X6_119) (mc_X6_explore d) mt_X6_explore hst (fits_of hf hc hs) h rfl rfl w
theorem lm_X6_129 : Cond.methodLink RX6 129 yX1_ticksFor ∈ gT := gT_mem (i := 635) (by decide +kernel) (by decide +kernel)
theorem k_X6_129 {G : GT} {Y : MD} {Z : ZT} {c0 s0 n pc : Nat} {μ : Mem} {L : List (Nat × AV)} {st : List AV} {a : Int} {x0 : Int} {Q : Int → Nat → Mem → Prop} (hY : Y.1.cls = RX6) (hd : decode Y.2.1 pc = .ok (.invokevirtual 129, 3)) (hst : st.length ≤ 8) (hf : fitsB Y Y_X1_ticksFor = true) (hc : c0 + 0 ≤ Y.2.2.2.2.2.2.1) (hs : s0 + 0 ≤ Y.2.2.2.2.2.2.2) (ho : gx G n μ → 0 ≤ a ∧ a < n ∧ SH a = (1, 6)) (h : CI G Y_X1_ticksFor [.inr a, .inl x0] n μ Q) (w : ∀ (x : Int) (n' : Nat) (ν : Mem), Q x n' ν → Wa G Y Z c0 s0 n' ν (pc + 3) L (.inl x :: st)) : Wa G Y Z c0 s0 n μ pc L (.inl x0 :: .inr a :: st) :=
  c_VI (Yc := Y_X1_ticksFor) (As := [.inl x0]) rfl hd (by rw [hY]; exact lm_X6_129) mc_X1_ticksFor mi_X1_ticksFor ms_X1_ticksFor hst (fits_of hf hc hs) cf_1.2.1 (by decide) ho h rfl rfl w
theorem lm_X6_133 : Cond.methodLink RX6 133 yX6_firstBegin ∈ gT := gT_mem (i := 639) (by decide +kernel) (by decide +kernel)
theorem k_X6_133 {G : GT} {Y : MD} {Z : ZT} {c0 s0 n pc : Nat} {μ : Mem} {L : List (Nat × AV)} {st : List AV} {a : Int} {x0 x1 x2 : Int} {Q : Int → Nat → Mem → Prop} (hY : Y.1.cls = RX6) (hd : decode Y.2.1 pc = .ok (.invokevirtual 133, 3)) (hst : st.length ≤ 8) (hf : fitsB Y Y_X6_firstBegin = true) (hc : c0 + 0 ≤ Y.2.2.2.2.2.2.1) (hs : s0 + 0 ≤ Y.2.2.2.2.2.2.2) (ho : gx G n μ → 0 ≤ a ∧ a < n ∧ SH a = (6, 8)) (h : CI G Y_X6_firstBegin [.inr a, .inl x0, .inl x1, .inl x2] n μ Q) (w : ∀ (x : Int) (n' : Nat) (ν : Mem), Q x n' ν → Wa G Y Z c0 s0 n' ν (pc + 3) L (.inl x :: st)) : Wa G Y Z c0 s0 n μ pc L (.inl x2 :: .inl x1 :: .inl x0 :: .inr a :: st) :=
  c_VI (Yc := Y_X6_firstBegin) (As := [.inl x0, .inl x1, .inl x2]) rfl hd (by rw [hY]; exact lm_X6_133) mc_X6_firstBegin mi_X6_firstBegin ms_X6_firstBegin hst (fits_of hf hc hs) cf_6.2.1 (by decide) ho h rfl rfl w
theorem lm_X6_140 : Cond.methodLink RX6 140 yX6_setTrail ∈ gT := gT_mem (i := 643) (by decide +kernel) (by decide +kernel)
theorem k_X6_140 {G : GT} {Y : MD} {Z : ZT} {c0 s0 n pc : Nat} {μ : Mem} {L : List (Nat × AV)} {st : List AV} {a : Int} {x0 x1 x2 x3 x4 : Int} {Q : Nat → Mem → Prop} (hY : Y.1.cls = RX6) (hd : decode Y.2.1 pc = .ok (.invokevirtual 140, 3)) (hst : st.length ≤ 8) (hf : fitsB Y Y_X6_setTrail = true) (hc : c0 + 0 ≤ Y.2.2.2.2.2.2.1) (hs : s0 + 0 ≤ Y.2.2.2.2.2.2.2) (ho : gx G n μ → 0 ≤ a ∧ a < n ∧ SH a = (6, 8)) (h : CV G Y_X6_setTrail [.inr a, .inl x0, .inl x1, .inl x2, .inl x3, .inl x4] n μ Q) (w : ∀ (n' : Nat) (ν : Mem), Q n' ν → Wa G Y Z c0 s0 n' ν (pc + 3) L st) : Wa G Y Z c0 s0 n μ pc L (.inl x4 :: .inl x3 :: .inl x2 :: .inl x1 :: .inl x0 :: .inr a :: st) :=
  c_VV (Yc := Y_X6_setTrail) (As := [.inl x0, .inl x1, .inl x2, .inl x3, .inl x4]) rfl hd (by rw [hY]; exact lm_X6_140) mc_X6_setTrail mi_X6_setTrail ms_X6_setTrail hst (fits_of hf hc hs) cf_6.2.1 (by decide) ho h rfl rfl w
theorem lm_X6_144 : Cond.methodLink RX6 144 yX8_appendFrom ∈ gT := gT_mem (i := 647) (by decide +kernel) (by decide +kernel)
theorem k_X6_144 {G : GT} {Y : MD} {Z : ZT} {c0 s0 n pc : Nat} {μ : Mem} {L : List (Nat × AV)} {st : List AV} {a : Int} {x0 : Int} {Q : Nat → Mem → Prop} (hY : Y.1.cls = RX6) (hd : decode Y.2.1 pc = .ok (.invokevirtual 144, 3)) (hst : st.length ≤ 8) (hf : fitsB Y Y_X8_appendFrom = true) (hc : c0 + 0 ≤ Y.2.2.2.2.2.2.1) (hs : s0 + 0 ≤ Y.2.2.2.2.2.2.2) (ho : gx G n μ → 0 ≤ a ∧ a < n ∧ SH a = (8, 3)) (h : CV G Y_X8_appendFrom [.inr a, .inr x0] n μ Q) (w : ∀ (n' : Nat) (ν : Mem), Q n' ν → Wa G Y Z c0 s0 n' ν (pc + 3) L st) : Wa G Y Z c0 s0 n μ pc L (.inr x0 :: .inr a :: st) :=
  c_VV (Yc := Y_X8_appendFrom) (As := [.inr x0]) rfl hd (by rw [hY]; exact lm_X6_144) mc_X8_appendFrom mi_X8_appendFrom ms_X8_appendFrom hst (fits_of hf hc hs) cf_8.2.1 (by decide) ho h rfl rfl w
theorem lm_X7_3 : Cond.methodLink RX7 3 Lib.objectInit ∈ gT := gT_mem (i := 246) (by decide +kernel) (by decide +kernel)
theorem k_X7_3 {G : GT} {Y : MD} {Z : ZT} {c0 s0 n pc : Nat} {μ : Mem} {L : List (Nat × AV)} {st : List AV} {a : Int} (hY : Y.1.cls = RX7) (hd : decode Y.2.1 pc = .ok (.invokespecial 3, 3)) (ha : 0 ≤ a) (hst : st.length ≤ 8) (hf : Nat.ble 1 Y.2.2.2.2.1 = true) (hlo : Nat.ble 20 Y.2.2.2.2.2.1 = true) (w : Wa G Y Z c0 s0 n μ (pc + 3) L st) : Wa G Y Z c0 s0 n μ pc L (.inr a :: st) :=
  a_objInit hd (by rw [hY]; exact lm_X7_3) oi_i oi_c ha hst (Nat.le_of_ble_eq_true hf) (Nat.le_of_ble_eq_true hlo) w
theorem lm_X7_11 : Cond.methodLink RX7 11 yX0_init ∈ gT := gT_mem (i := 249) (by decide +kernel) (by decide +kernel)
theorem k_X7_11 {G : GT} {Y : MD} {Z : ZT} {c0 s0 n pc : Nat} {μ : Mem} {L : List (Nat × AV)} {st : List AV} {a : Int} {x0 : Int} {Q : Nat → Mem → Prop} (hY : Y.1.cls = RX7) (hd : decode Y.2.1 pc = .ok (.invokespecial 11, 3)) (hst : st.length ≤ 8) (hf : fitsB Y Y_X0_init = true) (hc : c0 + 2 ≤ Y.2.2.2.2.2.2.1) (hs : s0 + 803 ≤ Y.2.2.2.2.2.2.2) (ha : 0 ≤ a) (h : CV G Y_X0_init [.inr a, .inr x0] n μ Q) (w : ∀ (n' : Nat) (ν : Mem), Q n' ν → Wa G Y Z (c0 + 2) (s0 + 803) n' ν (pc + 3) L st) : Wa G Y Z c0 s0 n μ pc L (.inr x0 :: .inr a :: st) :=
  c_N (Yc := Y_X0_init) (As := [.inr x0]) rfl hd (by rw [hY]; exact lm_X7_11) mc_X0_init mi_X0_init rfl rfl hst (fits_of hf hc hs) ha h rfl rfl w
theorem lm_X7_34 : Cond.methodLink RX7 34 yX7_bundleAt ∈ gT := gT_mem (i := 524) (by decide +kernel) (by decide +kernel)
theorem k_X7_34 {G : GT} {Y : MD} {Z : ZT} {c0 s0 n pc : Nat} {μ : Mem} {L : List (Nat × AV)} {st : List AV} {a : Int} {x0 : Int} {Q : Int → Nat → Mem → Prop} (hY : Y.1.cls = RX7) (hd : decode Y.2.1 pc = .ok (.invokevirtual 34, 3)) (hst : st.length ≤ 8) (hf : fitsB Y Y_X7_bundleAt = true) (hc : c0 + 0 ≤ Y.2.2.2.2.2.2.1) (hs : s0 + 0 ≤ Y.2.2.2.2.2.2.2) (ho : gx G n μ → 0 ≤ a ∧ a < n ∧ SH a = (7, 5)) (h : CR G Y_X7_bundleAt [.inr a, .inl x0] n μ Q) (w : ∀ (x : Int) (n' : Nat) (ν : Mem), 0 ≤ x → Q x n' ν → Wa G Y Z c0 s0 n' ν (pc + 3) L (.inr x :: st)) : Wa G Y Z c0 s0 n μ pc L (.inl x0 :: .inr a :: st) :=
  c_VR (Yc := Y_X7_bundleAt) (As := [.inl x0]) rfl hd (by rw [hY]; exact lm_X7_34) mc_X7_bundleAt mi_X7_bundleAt ms_X7_bundleAt hst (fits_of hf hc hs) cf_7.2.1 (by decide) ho h rfl rfl w
theorem lm_X7_38 : Cond.methodLink RX7 38 yX0_copyFrom ∈ gT := gT_mem (i := 528) (by decide +kernel) (by decide +kernel)
theorem k_X7_38 {G : GT} {Y : MD} {Z : ZT} {c0 s0 n pc : Nat} {μ : Mem} {L : List (Nat × AV)} {st : List AV} {a : Int} {x0 : Int} {Q : Nat → Mem → Prop} (hY : Y.1.cls = RX7) (hd : decode Y.2.1 pc = .ok (.invokevirtual 38, 3)) (hst : st.length ≤ 8) (hf : fitsB Y Y_X0_copyFrom = true) (hc : c0 + 0 ≤ Y.2.2.2.2.2.2.1) (hs : s0 + 0 ≤ Y.2.2.2.2.2.2.2) (ho : gx G n μ → 0 ≤ a ∧ a < n ∧ SH a = (0, 9)) (h : CV G Y_X0_copyFrom [.inr a, .inr x0] n μ Q) (w : ∀ (n' : Nat) (ν : Mem), Q n' ν → Wa G Y Z c0 s0 n' ν (pc + 3) L st) : Wa G Y Z c0 s0 n μ pc L (.inr x0 :: .inr a :: st) :=
  c_VV (Yc := Y_X0_copyFrom) (As := [.inr x0]) rfl hd (by rw [hY]; exact lm_X7_38) mc_X0_copyFrom mi_X0_copyFrom ms_X0_copyFrom hst (fits_of hf hc hs) cf_0.2.1 (by decide) ho h rfl rfl w
theorem lm_X7_42 : Cond.methodLink RX7 42 yX0_standing ∈ gT := gT_mem (i := 568) (by decide +kernel) (by decide +kernel)
theorem k_X7_42 {G : GT} {Y : MD} {Z : ZT} {c0 s0 n pc : Nat} {μ : Mem} {L : List (Nat × AV)} {st : List AV} {a : Int} {x0 : Int} {Q : Int → Nat → Mem → Prop} (hY : Y.1.cls = RX7) (hd : decode Y.2.1 pc = .ok (.invokevirtual 42, 3)) (hst : st.length ≤ 8) (hf : fitsB Y Y_X0_standing = true) (hc : c0 + 0 ≤ Y.2.2.2.2.2.2.1) (hs : s0 + 0 ≤ Y.2.2.2.2.2.2.2) (ho : gx G n μ → 0 ≤ a ∧ a < n ∧ SH a = (0, 9)) (h : CI G Y_X0_standing [.inr a, .inl x0] n μ Q) (w : ∀ (x : Int) (n' : Nat) (ν : Mem), Q x n' ν → Wa G Y Z c0 s0 n' ν (pc + 3) L (.inl x :: st)) : Wa G Y Z c0 s0 n μ pc L (.inl x0 :: .inr a :: st) :=
  c_VI (Yc := Y_X0_standing) (As := [.inl x0]) rfl hd (by rw [hY]; exact lm_X7_42) mc_X0_standing mi_X0_standing ms_X0_standing hst (fits_of hf hc hs) cf_0.2.1 (by decide) ho h rfl rfl w
theorem lm_X7_46 : Cond.methodLink RX7 46 yX7_allStanding ∈ gT := gT_mem (i := 709) (by decide +kernel) (by decide +kernel)
theorem k_X7_46 {G : GT} {Y : MD} {Z : ZT} {c0 s0 n pc : Nat} {μ : Mem} {L : List (Nat × AV)} {st : List AV} {a : Int} {x0 : Int} {Q : Int → Nat → Mem → Prop} (hY : Y.1.cls = RX7) (hd : decode Y.2.1 pc = .ok (.invokevirtual 46, 3)) (hst : st.length ≤ 8) (hf : fitsB Y Y_X7_allStanding = true) (hc : c0 + 0 ≤ Y.2.2.2.2.2.2.1) (hs : s0 + 0 ≤ Y.2.2.2.2.2.2.2) (ho : gx G n μ → 0 ≤ a ∧ a < n ∧ SH a = (7, 5)) (h : CI G Y_X7_allStanding [.inr a, .inl x0] n μ Q) (w : ∀ (x : Int) (n' : Nat) (ν : Mem), Q x n' ν → Wa G Y Z c0 s0 n' ν (pc + 3) L (.inl x :: st)) : Wa G Y Z c0 s0 n μ pc L (.inl x0 :: .inr a :: st) :=
  c_VI (Yc := Y_X7_allStanding) (As := [.inl x0]) rfl hd (by rw [hY]; exact lm_X7_46) mc_X7_allStanding mi_X7_allStanding ms_X7_allStanding hst (fits_of hf hc hs) cf_7.2.1 (by decide) ho h rfl rfl w
theorem lm_X7_49 : Cond.methodLink RX7 49 yJ6_bitCount_0f7a4 ∈ gT := gT_mem (i := 713) (by decide +kernel) (by decide +kernel)
theorem k_X7_49 {G : GT} {Y : MD} {Z : ZT} {c0 s0 n pc : Nat} {μ : Mem} {L : List (Nat × AV)} {st : List AV} {x0 : Int} {Q : Int → Nat → Mem → Prop} (hY : Y.1.cls = RX7) (hd : decode Y.2.1 pc = .ok (.invokestatic 49, 3)) (hst : st.length ≤ 8) (hf : fitsB Y Y_J6_bitCount_0f7a4 = true) (hc : c0 + 0 ≤ Y.2.2.2.2.2.2.1) (hs : s0 + 0 ≤ Y.2.2.2.2.2.2.2) (h : CI G Y_J6_bitCount_0f7a4 [.inl x0] n μ Q) (w : ∀ (x : Int) (n' : Nat) (ν : Mem), Q x n' ν → Wa G Y Z c0 s0 n' ν (pc + 3) L (.inl x :: st)) : Wa G Y Z c0 s0 n μ pc L (.inl x0 :: st) :=
  c_SI (Yc := Y_J6_bitCount_0f7a4) (As := [.inl x0]) rfl hd (by rw [hY]; exact lm_X7_49) mc_J6_bitCount_0f7a4 mt_J6_bitCount_0f7a4 hst (fits_of hf hc hs) h rfl rfl w
theorem lm_X7_54 : Cond.methodLink RX7 54 yX0_lastThere ∈ gT := gT_mem (i := 661) (by decide +kernel) (by decide +kernel)
theorem k_X7_54 {G : GT} {Y : MD} {Z : ZT} {c0 s0 n pc : Nat} {μ : Mem} {L : List (Nat × AV)} {st : List AV} {a : Int} {Q : Int → Nat → Mem → Prop} (hY : Y.1.cls = RX7) (hd : decode Y.2.1 pc = .ok (.invokevirtual 54, 3)) (hst : st.length ≤ 8) (hf : fitsB Y Y_X0_lastThere = true) (hc : c0 + 0 ≤ Y.2.2.2.2.2.2.1) (hs : s0 + 0 ≤ Y.2.2.2.2.2.2.2) (ho : gx G n μ → 0 ≤ a ∧ a < n ∧ SH a = (0, 9)) (h : CI G Y_X0_lastThere [.inr a] n μ Q) (w : ∀ (x : Int) (n' : Nat) (ν : Mem), Q x n' ν → Wa G Y Z c0 s0 n' ν (pc + 3) L (.inl x :: st)) : Wa G Y Z c0 s0 n μ pc L (.inr a :: st) :=
  c_VI (Yc := Y_X0_lastThere) (As := []) rfl hd (by rw [hY]; exact lm_X7_54) mc_X0_lastThere mi_X0_lastThere ms_X0_lastThere hst (fits_of hf hc hs) cf_0.2.1 (by decide) ho h rfl rfl w
theorem lm_X7_58 : Cond.methodLink RX7 58 yX0_takes ∈ gT := gT_mem (i := 758) (by decide +kernel) (by decide +kernel)
theorem k_X7_58 {G : GT} {Y : MD} {Z : ZT} {c0 s0 n pc : Nat} {μ : Mem} {L : List (Nat × AV)} {st : List AV} {a : Int} {x0 x1 : Int} {Q : Int → Nat → Mem → Prop} (hY : Y.1.cls = RX7) (hd : decode Y.2.1 pc = .ok (.invokevirtual 58, 3)) (hst : st.length ≤ 8) (hf : fitsB Y Y_X0_takes = true) (hc : c0 + 0 ≤ Y.2.2.2.2.2.2.1) (hs : s0 + 0 ≤ Y.2.2.2.2.2.2.2) (ho : gx G n μ → 0 ≤ a ∧ a < n ∧ SH a = (0, 9)) (h : CI G Y_X0_takes [.inr a, .inl x0, .inl x1] n μ Q) (w : ∀ (x : Int) (n' : Nat) (ν : Mem), Q x n' ν → Wa G Y Z c0 s0 n' ν (pc + 3) L (.inl x :: st)) : Wa G Y Z c0 s0 n μ pc L (.inl x1 :: .inl x0 :: .inr a :: st) :=
  c_VI (Yc := Y_X0_takes) (As := [.inl x0, .inl x1]) rfl hd (by rw [hY]; exact lm_X7_58) mc_X0_takes mi_X0_takes ms_X0_takes hst (fits_of hf hc hs) cf_0.2.1 (by decide) ho h rfl rfl w
theorem lm_X7_62 : Cond.methodLink RX7 62 yX0_arrive ∈ gT := gT_mem (i := 683) (by decide +kernel) (by decide +kernel)
theorem k_X7_62 {G : GT} {Y : MD} {Z : ZT} {c0 s0 n pc : Nat} {μ : Mem} {L : List (Nat × AV)} {st : List AV} {a : Int} {x0 : Int} {Q : Nat → Mem → Prop} (hY : Y.1.cls = RX7) (hd : decode Y.2.1 pc = .ok (.invokevirtual 62, 3)) (hst : st.length ≤ 8) (hf : fitsB Y Y_X0_arrive = true) (hc : c0 + 0 ≤ Y.2.2.2.2.2.2.1) (hs : s0 + 0 ≤ Y.2.2.2.2.2.2.2) (ho : gx G n μ → 0 ≤ a ∧ a < n ∧ SH a = (0, 9)) (h : CV G Y_X0_arrive [.inr a, .inl x0] n μ Q) (w : ∀ (n' : Nat) (ν : Mem), Q n' ν → Wa G Y Z c0 s0 n' ν (pc + 3) L st) : Wa G Y Z c0 s0 n μ pc L (.inl x0 :: .inr a :: st) :=
  c_VV (Yc := Y_X0_arrive) (As := [.inl x0]) rfl hd (by rw [hY]; exact lm_X7_62) mc_X0_arrive mi_X0_arrive ms_X0_arrive hst (fits_of hf hc hs) cf_0.2.1 (by decide) ho h rfl rfl w
theorem lm_X7_66 : Cond.methodLink RX7 66 yX0_loses ∈ gT := gT_mem (i := 700) (by decide +kernel) (by decide +kernel)
theorem k_X7_66 {G : GT} {Y : MD} {Z : ZT} {c0 s0 n pc : Nat} {μ : Mem} {L : List (Nat × AV)} {st : List AV} {a : Int} {x0 x1 : Int} {Q : Int → Nat → Mem → Prop} (hY : Y.1.cls = RX7) (hd : decode Y.2.1 pc = .ok (.invokevirtual 66, 3)) (hst : st.length ≤ 8) (hf : fitsB Y Y_X0_loses = true) (hc : c0 + 0 ≤ Y.2.2.2.2.2.2.1) (hs : s0 + 0 ≤ Y.2.2.2.2.2.2.2) (ho : gx G n μ → 0 ≤ a ∧ a < n ∧ SH a = (0, 9)) (h : CI G Y_X0_loses [.inr a, .inl x0, .inl x1] n μ Q) (w : ∀ (x : Int) (n' : Nat) (ν : Mem), Q x n' ν → Wa G Y Z c0 s0 n' ν (pc + 3) L (.inl x :: st)) : Wa G Y Z c0 s0 n μ pc L (.inl x1 :: .inl x0 :: .inr a :: st) :=
  c_VI (Yc := Y_X0_loses) (As := [.inl x0, .inl x1]) rfl hd (by rw [hY]; exact lm_X7_66) mc_X0_loses mi_X0_loses ms_X0_loses hst (fits_of hf hc hs) cf_0.2.1 (by decide) ho h rfl rfl w
theorem lm_X7_69 : Cond.methodLink RX7 69 yX7_isOpen ∈ gT := gT_mem (i := 704) (by decide +kernel) (by decide +kernel)
theorem k_X7_69 {G : GT} {Y : MD} {Z : ZT} {c0 s0 n pc : Nat} {μ : Mem} {L : List (Nat × AV)} {st : List AV} {a : Int} {x0 : Int} {Q : Int → Nat → Mem → Prop} (hY : Y.1.cls = RX7) (hd : decode Y.2.1 pc = .ok (.invokevirtual 69, 3)) (hst : st.length ≤ 8) (hf : fitsB Y Y_X7_isOpen = true) (hc : c0 + 0 ≤ Y.2.2.2.2.2.2.1) (hs : s0 + 0 ≤ Y.2.2.2.2.2.2.2) (ho : gx G n μ → 0 ≤ a ∧ a < n ∧ SH a = (7, 5)) (h : CI G Y_X7_isOpen [.inr a, .inl x0] n μ Q) (w : ∀ (x : Int) (n' : Nat) (ν : Mem), Q x n' ν → Wa G Y Z c0 s0 n' ν (pc + 3) L (.inl x :: st)) : Wa G Y Z c0 s0 n μ pc L (.inl x0 :: .inr a :: st) :=
  c_VI (Yc := Y_X7_isOpen) (As := [.inl x0]) rfl hd (by rw [hY]; exact lm_X7_69) mc_X7_isOpen mi_X7_isOpen ms_X7_isOpen hst (fits_of hf hc hs) cf_7.2.1 (by decide) ho h rfl rfl w
theorem lm_X8_3 : Cond.methodLink RX8 3 Lib.objectInit ∈ gT := gT_mem (i := 187) (by decide +kernel) (by decide +kernel)
theorem k_X8_3 {G : GT} {Y : MD} {Z : ZT} {c0 s0 n pc : Nat} {μ : Mem} {L : List (Nat × AV)} {st : List AV} {a : Int} (hY : Y.1.cls = RX8) (hd : decode Y.2.1 pc = .ok (.invokespecial 3, 3)) (ha : 0 ≤ a) (hst : st.length ≤ 8) (hf : Nat.ble 1 Y.2.2.2.2.1 = true) (hlo : Nat.ble 20 Y.2.2.2.2.2.1 = true) (w : Wa G Y Z c0 s0 n μ (pc + 3) L st) : Wa G Y Z c0 s0 n μ pc L (.inr a :: st) :=
  a_objInit hd (by rw [hY]; exact lm_X8_3) oi_i oi_c ha hst (Nat.le_of_ble_eq_true hf) (Nat.le_of_ble_eq_true hlo) w
theorem lm_X8_15 : Cond.methodLink RX8 15 Lib.Math.max.name ∈ gT := gT_mem (i := 188) (by decide +kernel) (by decide +kernel)
theorem k_X8_15 {G : GT} {Y : MD} {Z : ZT} {c0 s0 n pc : Nat} {μ : Mem} {L : List (Nat × AV)} {st : List AV} {x y : Int} (hY : Y.1.cls = RX8) (hd : decode Y.2.1 pc = .ok (.invokestatic 15, 3)) (hst : st.length ≤ 7) (hf : Nat.ble 1 Y.2.2.2.2.1 = true) (hlo : Nat.ble 20 Y.2.2.2.2.2.1 = true) (hc : c0 ≤ Y.2.2.2.2.2.2.1) (hs : s0 ≤ Y.2.2.2.2.2.2.2) (w : Wa G Y Z c0 s0 n μ (pc + 3) L (.inl (if x < y then y else x) :: st)) : Wa G Y Z c0 s0 n μ pc L (.inl y :: .inl x :: st) :=
  a_max hd (by rw [hY]; exact lm_X8_15) ma_max_s ma_i ma_max_c hst (Nat.le_of_ble_eq_true hf) (Nat.le_of_ble_eq_true hlo) hc hs w
theorem lm_X8_28 : Cond.methodLink RX8 28 Lib.Math.min.name ∈ gT := gT_mem (i := 482) (by decide +kernel) (by decide +kernel)
theorem k_X8_28 {G : GT} {Y : MD} {Z : ZT} {c0 s0 n pc : Nat} {μ : Mem} {L : List (Nat × AV)} {st : List AV} {x y : Int} (hY : Y.1.cls = RX8) (hd : decode Y.2.1 pc = .ok (.invokestatic 28, 3)) (hst : st.length ≤ 7) (hf : Nat.ble 1 Y.2.2.2.2.1 = true) (hlo : Nat.ble 20 Y.2.2.2.2.2.1 = true) (hc : c0 ≤ Y.2.2.2.2.2.2.1) (hs : s0 ≤ Y.2.2.2.2.2.2.2) (w : Wa G Y Z c0 s0 n μ (pc + 3) L (.inl (if y < x then y else x) :: st)) : Wa G Y Z c0 s0 n μ pc L (.inl y :: .inl x :: st) :=
  a_min hd (by rw [hY]; exact lm_X8_28) ma_min_s ma_i ma_min_c hst (Nat.le_of_ble_eq_true hf) (Nat.le_of_ble_eq_true hlo) hc hs w
theorem lm_X8_31 : Cond.methodLink RX8 31 yX8_at ∈ gT := gT_mem (i := 549) (by decide +kernel) (by decide +kernel)
theorem k_X8_31 {G : GT} {Y : MD} {Z : ZT} {c0 s0 n pc : Nat} {μ : Mem} {L : List (Nat × AV)} {st : List AV} {a : Int} {x0 x1 : Int} {Q : Int → Nat → Mem → Prop} (hY : Y.1.cls = RX8) (hd : decode Y.2.1 pc = .ok (.invokevirtual 31, 3)) (hst : st.length ≤ 8) (hf : fitsB Y Y_X8_at = true) (hc : c0 + 0 ≤ Y.2.2.2.2.2.2.1) (hs : s0 + 0 ≤ Y.2.2.2.2.2.2.2) (ho : gx G n μ → 0 ≤ a ∧ a < n ∧ SH a = (8, 3)) (h : CI G Y_X8_at [.inr a, .inl x0, .inl x1] n μ Q) (w : ∀ (x : Int) (n' : Nat) (ν : Mem), Q x n' ν → Wa G Y Z c0 s0 n' ν (pc + 3) L (.inl x :: st)) : Wa G Y Z c0 s0 n μ pc L (.inl x1 :: .inl x0 :: .inr a :: st) :=
  c_VI (Yc := Y_X8_at) (As := [.inl x0, .inl x1]) rfl hd (by rw [hY]; exact lm_X8_31) mc_X8_at mi_X8_at ms_X8_at hst (fits_of hf hc hs) cf_8.2.1 (by decide) ho h rfl rfl w
theorem lm_X8_34 : Cond.methodLink RX8 34 yX8_put ∈ gT := gT_mem (i := 553) (by decide +kernel) (by decide +kernel)
theorem k_X8_34 {G : GT} {Y : MD} {Z : ZT} {c0 s0 n pc : Nat} {μ : Mem} {L : List (Nat × AV)} {st : List AV} {a : Int} {x0 x1 x2 : Int} {Q : Nat → Mem → Prop} (hY : Y.1.cls = RX8) (hd : decode Y.2.1 pc = .ok (.invokevirtual 34, 3)) (hst : st.length ≤ 8) (hf : fitsB Y Y_X8_put = true) (hc : c0 + 0 ≤ Y.2.2.2.2.2.2.1) (hs : s0 + 0 ≤ Y.2.2.2.2.2.2.2) (ho : gx G n μ → 0 ≤ a ∧ a < n ∧ SH a = (8, 3)) (h : CV G Y_X8_put [.inr a, .inl x0, .inl x1, .inl x2] n μ Q) (w : ∀ (n' : Nat) (ν : Mem), Q n' ν → Wa G Y Z c0 s0 n' ν (pc + 3) L st) : Wa G Y Z c0 s0 n μ pc L (.inl x2 :: .inl x1 :: .inl x0 :: .inr a :: st) :=
  c_VV (Yc := Y_X8_put) (As := [.inl x0, .inl x1, .inl x2]) rfl hd (by rw [hY]; exact lm_X8_34) mc_X8_put mi_X8_put ms_X8_put hst (fits_of hf hc hs) cf_8.2.1 (by decide) ho h rfl rfl w
theorem lm_X8_38 : Cond.methodLink RX8 38 yX8_cut ∈ gT := gT_mem (i := 691) (by decide +kernel) (by decide +kernel)
theorem k_X8_38 {G : GT} {Y : MD} {Z : ZT} {c0 s0 n pc : Nat} {μ : Mem} {L : List (Nat × AV)} {st : List AV} {a : Int} {x0 : Int} {Q : Nat → Mem → Prop} (hY : Y.1.cls = RX8) (hd : decode Y.2.1 pc = .ok (.invokevirtual 38, 3)) (hst : st.length ≤ 8) (hf : fitsB Y Y_X8_cut = true) (hc : c0 + 0 ≤ Y.2.2.2.2.2.2.1) (hs : s0 + 0 ≤ Y.2.2.2.2.2.2.2) (ho : gx G n μ → 0 ≤ a ∧ a < n ∧ SH a = (8, 3)) (h : CV G Y_X8_cut [.inr a, .inl x0] n μ Q) (w : ∀ (n' : Nat) (ν : Mem), Q n' ν → Wa G Y Z c0 s0 n' ν (pc + 3) L st) : Wa G Y Z c0 s0 n μ pc L (.inl x0 :: .inr a :: st) :=
  c_VV (Yc := Y_X8_cut) (As := [.inl x0]) rfl hd (by rw [hY]; exact lm_X8_38) mc_X8_cut mi_X8_cut ms_X8_cut hst (fits_of hf hc hs) cf_8.2.1 (by decide) ho h rfl rfl w
theorem lm_X8_42 : Cond.methodLink RX8 42 yX8_appendFrom ∈ gT := gT_mem (i := 541) (by decide +kernel) (by decide +kernel)
theorem k_X8_42 {G : GT} {Y : MD} {Z : ZT} {c0 s0 n pc : Nat} {μ : Mem} {L : List (Nat × AV)} {st : List AV} {a : Int} {x0 : Int} {Q : Nat → Mem → Prop} (hY : Y.1.cls = RX8) (hd : decode Y.2.1 pc = .ok (.invokevirtual 42, 3)) (hst : st.length ≤ 8) (hf : fitsB Y Y_X8_appendFrom = true) (hc : c0 + 0 ≤ Y.2.2.2.2.2.2.1) (hs : s0 + 0 ≤ Y.2.2.2.2.2.2.2) (ho : gx G n μ → 0 ≤ a ∧ a < n ∧ SH a = (8, 3)) (h : CV G Y_X8_appendFrom [.inr a, .inr x0] n μ Q) (w : ∀ (n' : Nat) (ν : Mem), Q n' ν → Wa G Y Z c0 s0 n' ν (pc + 3) L st) : Wa G Y Z c0 s0 n μ pc L (.inr x0 :: .inr a :: st) :=
  c_VV (Yc := Y_X8_appendFrom) (As := [.inr x0]) rfl hd (by rw [hY]; exact lm_X8_42) mc_X8_appendFrom mi_X8_appendFrom ms_X8_appendFrom hst (fits_of hf hc hs) cf_8.2.1 (by decide) ho h rfl rfl w
theorem lm_X8_46 : Cond.methodLink RX8 46 yX8_addRow ∈ gT := gT_mem (i := 545) (by decide +kernel) (by decide +kernel)
theorem k_X8_46 {G : GT} {Y : MD} {Z : ZT} {c0 s0 n pc : Nat} {μ : Mem} {L : List (Nat × AV)} {st : List AV} {a : Int} {Q : Int → Nat → Mem → Prop} (hY : Y.1.cls = RX8) (hd : decode Y.2.1 pc = .ok (.invokevirtual 46, 3)) (hst : st.length ≤ 8) (hf : fitsB Y Y_X8_addRow = true) (hc : c0 + 0 ≤ Y.2.2.2.2.2.2.1) (hs : s0 + 0 ≤ Y.2.2.2.2.2.2.2) (ho : gx G n μ → 0 ≤ a ∧ a < n ∧ SH a = (8, 3)) (h : CI G Y_X8_addRow [.inr a] n μ Q) (w : ∀ (x : Int) (n' : Nat) (ν : Mem), Q x n' ν → Wa G Y Z c0 s0 n' ν (pc + 3) L (.inl x :: st)) : Wa G Y Z c0 s0 n μ pc L (.inr a :: st) :=
  c_VI (Yc := Y_X8_addRow) (As := []) rfl hd (by rw [hY]; exact lm_X8_46) mc_X8_addRow mi_X8_addRow ms_X8_addRow hst (fits_of hf hc hs) cf_8.2.1 (by decide) ho h rfl rfl w
theorem lm_X9_3 : Cond.methodLink RX9 3 Lib.objectInit ∈ gT := gT_mem (i := 88) (by decide +kernel) (by decide +kernel)
theorem k_X9_3 {G : GT} {Y : MD} {Z : ZT} {c0 s0 n pc : Nat} {μ : Mem} {L : List (Nat × AV)} {st : List AV} {a : Int} (hY : Y.1.cls = RX9) (hd : decode Y.2.1 pc = .ok (.invokespecial 3, 3)) (ha : 0 ≤ a) (hst : st.length ≤ 8) (hf : Nat.ble 1 Y.2.2.2.2.1 = true) (hlo : Nat.ble 20 Y.2.2.2.2.2.1 = true) (w : Wa G Y Z c0 s0 n μ (pc + 3) L st) : Wa G Y Z c0 s0 n μ pc L (.inr a :: st) :=
  a_objInit hd (by rw [hY]; exact lm_X9_3) oi_i oi_c ha hst (Nat.le_of_ble_eq_true hf) (Nat.le_of_ble_eq_true hlo) w
theorem lm_L_9 : Cond.methodLink RL 9 yX10_init ∈ gT := gT_mem (i := 77) (by decide +kernel) (by decide +kernel)
theorem k_L_9 {G : GT} {Y : MD} {Z : ZT} {c0 s0 n pc : Nat} {μ : Mem} {L : List (Nat × AV)} {st : List AV} {a : Int} {Q : Nat → Mem → Prop} (hY : Y.1.cls = RL) (hd : decode Y.2.1 pc = .ok (.invokespecial 9, 3)) (hst : st.length ≤ 8) (hf : fitsB Y Y_X10_init = true) (hc : c0 + 398 ≤ Y.2.2.2.2.2.2.1) (hs : s0 + 98598 ≤ Y.2.2.2.2.2.2.2) (ha : 0 ≤ a) (h : CV G Y_X10_init [.inr a] n μ Q) (w : ∀ (n' : Nat) (ν : Mem), Q n' ν → Wa G Y Z (c0 + 398) (s0 + 98598) n' ν (pc + 3) L st) : Wa G Y Z c0 s0 n μ pc L (.inr a :: st) :=
  c_N (Yc := Y_X10_init) (As := []) rfl hd (by rw [hY]; exact lm_L_9) mc_X10_init mi_X10_init rfl rfl hst (fits_of hf hc hs) ha h rfl rfl w
theorem lm_L_12 : Cond.methodLink RL 12 yX11_init ∈ gT := gT_mem (i := 817) (by decide +kernel) (by decide +kernel)
theorem k_L_12 {G : GT} {Y : MD} {Z : ZT} {c0 s0 n pc : Nat} {μ : Mem} {L : List (Nat × AV)} {st : List AV} {a : Int} {Q : Nat → Mem → Prop} (hY : Y.1.cls = RL) (hd : decode Y.2.1 pc = .ok (.invokespecial 12, 3)) (hst : st.length ≤ 8) (hf : fitsB Y Y_X11_init = true) (hc : c0 + 15 ≤ Y.2.2.2.2.2.2.1) (hs : s0 + 3068 ≤ Y.2.2.2.2.2.2.2) (ha : 0 ≤ a) (h : CV G Y_X11_init [.inr a] n μ Q) (w : ∀ (n' : Nat) (ν : Mem), Q n' ν → Wa G Y Z (c0 + 15) (s0 + 3068) n' ν (pc + 3) L st) : Wa G Y Z c0 s0 n μ pc L (.inr a :: st) :=
  c_N (Yc := Y_X11_init) (As := []) rfl hd (by rw [hY]; exact lm_L_12) mc_X11_init mi_X11_init rfl rfl hst (fits_of hf hc hs) ha h rfl rfl w
theorem lm_L_13 : Cond.methodLink RL 13 yX10_type ∈ gT := gT_mem (i := 377) (by decide +kernel) (by decide +kernel)
theorem k_L_13 {G : GT} {Y : MD} {Z : ZT} {c0 s0 n pc : Nat} {μ : Mem} {L : List (Nat × AV)} {st : List AV} {a : Int} {x0 : Int} {Q : Int → Nat → Mem → Prop} (hY : Y.1.cls = RL) (hd : decode Y.2.1 pc = .ok (.invokevirtual 13, 3)) (hst : st.length ≤ 8) (hf : fitsB Y Y_X10_type = true) (hc : c0 + 0 ≤ Y.2.2.2.2.2.2.1) (hs : s0 + 0 ≤ Y.2.2.2.2.2.2.2) (ho : gx G n μ → 0 ≤ a ∧ a < n ∧ SH a = (10, 12)) (h : CI G Y_X10_type [.inr a, .inl x0] n μ Q) (w : ∀ (x : Int) (n' : Nat) (ν : Mem), Q x n' ν → Wa G Y Z c0 s0 n' ν (pc + 3) L (.inl x :: st)) : Wa G Y Z c0 s0 n μ pc L (.inl x0 :: .inr a :: st) :=
  c_VI (Yc := Y_X10_type) (As := [.inl x0]) rfl hd (by rw [hY]; exact lm_L_13) mc_X10_type mi_X10_type ms_X10_type hst (fits_of hf hc hs) cf_10.2.1 (by decide) ho h rfl rfl w
theorem lm_L_17 : Cond.methodLink RL 17 yX11_type ∈ gT := gT_mem (i := 915) (by decide +kernel) (by decide +kernel)
theorem k_L_17 {G : GT} {Y : MD} {Z : ZT} {c0 s0 n pc : Nat} {μ : Mem} {L : List (Nat × AV)} {st : List AV} {a : Int} {x0 : Int} {Q : Int → Nat → Mem → Prop} (hY : Y.1.cls = RL) (hd : decode Y.2.1 pc = .ok (.invokevirtual 17, 3)) (hst : st.length ≤ 8) (hf : fitsB Y Y_X11_type = true) (hc : c0 + 0 ≤ Y.2.2.2.2.2.2.1) (hs : s0 + 0 ≤ Y.2.2.2.2.2.2.2) (ho : gx G n μ → 0 ≤ a ∧ a < n ∧ SH a = (11, 28)) (h : CI G Y_X11_type [.inr a, .inl x0] n μ Q) (w : ∀ (x : Int) (n' : Nat) (ν : Mem), Q x n' ν → Wa G Y Z c0 s0 n' ν (pc + 3) L (.inl x :: st)) : Wa G Y Z c0 s0 n μ pc L (.inl x0 :: .inr a :: st) :=
  c_VI (Yc := Y_X11_type) (As := [.inl x0]) rfl hd (by rw [hY]; exact lm_L_17) mc_X11_type mi_X11_type ms_X11_type hst (fits_of hf hc hs) cf_11.2.1 (by decide) ho h rfl rfl w
theorem lm_L_18 : Cond.methodLink RL 18 yX10_clear ∈ gT := gT_mem (i := 392) (by decide +kernel) (by decide +kernel)
theorem k_L_18 {G : GT} {Y : MD} {Z : ZT} {c0 s0 n pc : Nat} {μ : Mem} {L : List (Nat × AV)} {st : List AV} {a : Int} {Q : Int → Nat → Mem → Prop} (hY : Y.1.cls = RL) (hd : decode Y.2.1 pc = .ok (.invokevirtual 18, 3)) (hst : st.length ≤ 8) (hf : fitsB Y Y_X10_clear = true) (hc : c0 + 0 ≤ Y.2.2.2.2.2.2.1) (hs : s0 + 0 ≤ Y.2.2.2.2.2.2.2) (ho : gx G n μ → 0 ≤ a ∧ a < n ∧ SH a = (10, 12)) (h : CI G Y_X10_clear [.inr a] n μ Q) (w : ∀ (x : Int) (n' : Nat) (ν : Mem), Q x n' ν → Wa G Y Z c0 s0 n' ν (pc + 3) L (.inl x :: st)) : Wa G Y Z c0 s0 n μ pc L (.inr a :: st) :=
  c_VI (Yc := Y_X10_clear) (As := []) rfl hd (by rw [hY]; exact lm_L_18) mc_X10_clear mi_X10_clear ms_X10_clear hst (fits_of hf hc hs) cf_10.2.1 (by decide) ho h rfl rfl w
theorem lm_L_22 : Cond.methodLink RL 22 yX11_clear ∈ gT := gT_mem (i := 922) (by decide +kernel) (by decide +kernel)
theorem k_L_22 {G : GT} {Y : MD} {Z : ZT} {c0 s0 n pc : Nat} {μ : Mem} {L : List (Nat × AV)} {st : List AV} {a : Int} {Q : Int → Nat → Mem → Prop} (hY : Y.1.cls = RL) (hd : decode Y.2.1 pc = .ok (.invokevirtual 22, 3)) (hst : st.length ≤ 8) (hf : fitsB Y Y_X11_clear = true) (hc : c0 + 0 ≤ Y.2.2.2.2.2.2.1) (hs : s0 + 0 ≤ Y.2.2.2.2.2.2.2) (ho : gx G n μ → 0 ≤ a ∧ a < n ∧ SH a = (11, 28)) (h : CI G Y_X11_clear [.inr a] n μ Q) (w : ∀ (x : Int) (n' : Nat) (ν : Mem), Q x n' ν → Wa G Y Z c0 s0 n' ν (pc + 3) L (.inl x :: st)) : Wa G Y Z c0 s0 n μ pc L (.inr a :: st) :=
  c_VI (Yc := Y_X11_clear) (As := []) rfl hd (by rw [hY]; exact lm_L_22) mc_X11_clear mi_X11_clear ms_X11_clear hst (fits_of hf hc hs) cf_11.2.1 (by decide) ho h rfl rfl w
theorem lm_L_23 : Cond.methodLink RL 23 yX10_plan ∈ gT := gT_mem (i := 400) (by decide +kernel) (by decide +kernel)
theorem k_L_23 {G : GT} {Y : MD} {Z : ZT} {c0 s0 n pc : Nat} {μ : Mem} {L : List (Nat × AV)} {st : List AV} {a : Int} {Q : Int → Nat → Mem → Prop} (hY : Y.1.cls = RL) (hd : decode Y.2.1 pc = .ok (.invokevirtual 23, 3)) (hst : st.length ≤ 8) (hf : fitsB Y Y_X10_plan = true) (hc : c0 + 150 ≤ Y.2.2.2.2.2.2.1) (hs : s0 + 900 ≤ Y.2.2.2.2.2.2.2) (ho : gx G n μ → 0 ≤ a ∧ a < n ∧ SH a = (10, 12)) (h : CI G Y_X10_plan [.inr a] n μ Q) (w : ∀ (x : Int) (n' : Nat) (ν : Mem), Q x n' ν → Wa G Y Z (c0 + 150) (s0 + 900) n' ν (pc + 3) L (.inl x :: st)) : Wa G Y Z c0 s0 n μ pc L (.inr a :: st) :=
  c_VI (Yc := Y_X10_plan) (As := []) rfl hd (by rw [hY]; exact lm_L_23) mc_X10_plan mi_X10_plan ms_X10_plan hst (fits_of hf hc hs) cf_10.2.1 (by decide) ho h rfl rfl w
theorem lm_L_26 : Cond.methodLink RL 26 yX11_plan ∈ gT := gT_mem (i := 926) (by decide +kernel) (by decide +kernel)
theorem k_L_26 {G : GT} {Y : MD} {Z : ZT} {c0 s0 n pc : Nat} {μ : Mem} {L : List (Nat × AV)} {st : List AV} {a : Int} {Q : Int → Nat → Mem → Prop} (hY : Y.1.cls = RL) (hd : decode Y.2.1 pc = .ok (.invokevirtual 26, 3)) (hst : st.length ≤ 8) (hf : fitsB Y Y_X11_plan = true) (hc : c0 + 0 ≤ Y.2.2.2.2.2.2.1) (hs : s0 + 0 ≤ Y.2.2.2.2.2.2.2) (ho : gx G n μ → 0 ≤ a ∧ a < n ∧ SH a = (11, 28)) (h : CI G Y_X11_plan [.inr a] n μ Q) (w : ∀ (x : Int) (n' : Nat) (ν : Mem), Q x n' ν → Wa G Y Z c0 s0 n' ν (pc + 3) L (.inl x :: st)) : Wa G Y Z c0 s0 n μ pc L (.inr a :: st) :=
  c_VI (Yc := Y_X11_plan) (As := []) rfl hd (by rw [hY]; exact lm_L_26) mc_X11_plan mi_X11_plan ms_X11_plan hst (fits_of hf hc hs) cf_11.2.1 (by decide) ho h rfl rfl w
theorem lm_L_27 : Cond.methodLink RL 27 yX10_contact ∈ gT := gT_mem (i := 483) (by decide +kernel) (by decide +kernel)
theorem k_L_27 {G : GT} {Y : MD} {Z : ZT} {c0 s0 n pc : Nat} {μ : Mem} {L : List (Nat × AV)} {st : List AV} {a : Int} {x0 x1 : Int} {Q : Int → Nat → Mem → Prop} (hY : Y.1.cls = RL) (hd : decode Y.2.1 pc = .ok (.invokevirtual 27, 3)) (hst : st.length ≤ 8) (hf : fitsB Y Y_X10_contact = true) (hc : c0 + 0 ≤ Y.2.2.2.2.2.2.1) (hs : s0 + 0 ≤ Y.2.2.2.2.2.2.2) (ho : gx G n μ → 0 ≤ a ∧ a < n ∧ SH a = (10, 12)) (h : CI G Y_X10_contact [.inr a, .inl x0, .inl x1] n μ Q) (w : ∀ (x : Int) (n' : Nat) (ν : Mem), Q x n' ν → Wa G Y Z c0 s0 n' ν (pc + 3) L (.inl x :: st)) : Wa G Y Z c0 s0 n μ pc L (.inl x1 :: .inl x0 :: .inr a :: st) :=
  c_VI (Yc := Y_X10_contact) (As := [.inl x0, .inl x1]) rfl hd (by rw [hY]; exact lm_L_27) mc_X10_contact mi_X10_contact ms_X10_contact hst (fits_of hf hc hs) cf_10.2.1 (by decide) ho h rfl rfl w
theorem lm_L_31 : Cond.methodLink RL 31 yX11_contact ∈ gT := gT_mem (i := 950) (by decide +kernel) (by decide +kernel)
theorem k_L_31 {G : GT} {Y : MD} {Z : ZT} {c0 s0 n pc : Nat} {μ : Mem} {L : List (Nat × AV)} {st : List AV} {a : Int} {x0 x1 : Int} {Q : Int → Nat → Mem → Prop} (hY : Y.1.cls = RL) (hd : decode Y.2.1 pc = .ok (.invokevirtual 31, 3)) (hst : st.length ≤ 8) (hf : fitsB Y Y_X11_contact = true) (hc : c0 + 0 ≤ Y.2.2.2.2.2.2.1) (hs : s0 + 0 ≤ Y.2.2.2.2.2.2.2) (ho : gx G n μ → 0 ≤ a ∧ a < n ∧ SH a = (11, 28)) (h : CI G Y_X11_contact [.inr a, .inl x0, .inl x1] n μ Q) (w : ∀ (x : Int) (n' : Nat) (ν : Mem), Q x n' ν → Wa G Y Z c0 s0 n' ν (pc + 3) L (.inl x :: st)) : Wa G Y Z c0 s0 n μ pc L (.inl x1 :: .inl x0 :: .inr a :: st) :=
  c_VI (Yc := Y_X11_contact) (As := [.inl x0, .inl x1]) rfl hd (by rw [hY]; exact lm_L_31) mc_X11_contact mi_X11_contact ms_X11_contact hst (fits_of hf hc hs) cf_11.2.1 (by decide) ho h rfl rfl w
theorem lm_L_32 : Cond.methodLink RL 32 yX10_sends ∈ gT := gT_mem (i := 500) (by decide +kernel) (by decide +kernel)
theorem k_L_32 {G : GT} {Y : MD} {Z : ZT} {c0 s0 n pc : Nat} {μ : Mem} {L : List (Nat × AV)} {st : List AV} {a : Int} {x0 x1 x2 x3 x4 : Int} {Q : Int → Nat → Mem → Prop} (hY : Y.1.cls = RL) (hd : decode Y.2.1 pc = .ok (.invokevirtual 32, 3)) (hst : st.length ≤ 8) (hf : fitsB Y Y_X10_sends = true) (hc : c0 + 0 ≤ Y.2.2.2.2.2.2.1) (hs : s0 + 0 ≤ Y.2.2.2.2.2.2.2) (ho : gx G n μ → 0 ≤ a ∧ a < n ∧ SH a = (10, 12)) (h : CI G Y_X10_sends [.inr a, .inl x0, .inl x1, .inl x2, .inl x3, .inl x4] n μ Q) (w : ∀ (x : Int) (n' : Nat) (ν : Mem), Q x n' ν → Wa G Y Z c0 s0 n' ν (pc + 3) L (.inl x :: st)) : Wa G Y Z c0 s0 n μ pc L (.inl x4 :: .inl x3 :: .inl x2 :: .inl x1 :: .inl x0 :: .inr a :: st) :=
  c_VI (Yc := Y_X10_sends) (As := [.inl x0, .inl x1, .inl x2, .inl x3, .inl x4]) rfl hd (by rw [hY]; exact lm_L_32) mc_X10_sends mi_X10_sends ms_X10_sends hst (fits_of hf hc hs) cf_10.2.1 (by decide) ho h rfl rfl w
theorem lm_L_36 : Cond.methodLink RL 36 yX11_sends ∈ gT := gT_mem (i := 962) (by decide +kernel) (by decide +kernel)
theorem k_L_36 {G : GT} {Y : MD} {Z : ZT} {c0 s0 n pc : Nat} {μ : Mem} {L : List (Nat × AV)} {st : List AV} {a : Int} {x0 x1 x2 x3 x4 : Int} {Q : Int → Nat → Mem → Prop} (hY : Y.1.cls = RL) (hd : decode Y.2.1 pc = .ok (.invokevirtual 36, 3)) (hst : st.length ≤ 8) (hf : fitsB Y Y_X11_sends = true) (hc : c0 + 0 ≤ Y.2.2.2.2.2.2.1) (hs : s0 + 0 ≤ Y.2.2.2.2.2.2.2) (ho : gx G n μ → 0 ≤ a ∧ a < n ∧ SH a = (11, 28)) (h : CI G Y_X11_sends [.inr a, .inl x0, .inl x1, .inl x2, .inl x3, .inl x4] n μ Q) (w : ∀ (x : Int) (n' : Nat) (ν : Mem), Q x n' ν → Wa G Y Z c0 s0 n' ν (pc + 3) L (.inl x :: st)) : Wa G Y Z c0 s0 n μ pc L (.inl x4 :: .inl x3 :: .inl x2 :: .inl x1 :: .inl x0 :: .inr a :: st) :=
  c_VI (Yc := Y_X11_sends) (As := [.inl x0, .inl x1, .inl x2, .inl x3, .inl x4]) rfl hd (by rw [hY]; exact lm_L_36) mc_X11_sends mi_X11_sends ms_X11_sends hst (fits_of hf hc hs) cf_11.2.1 (by decide) ho h rfl rfl w
theorem lm_L_37 : Cond.methodLink RL 37 yX10_drops ∈ gT := gT_mem (i := 662) (by decide +kernel) (by decide +kernel)
theorem k_L_37 {G : GT} {Y : MD} {Z : ZT} {c0 s0 n pc : Nat} {μ : Mem} {L : List (Nat × AV)} {st : List AV} {a : Int} {x0 : Int} {Q : Int → Nat → Mem → Prop} (hY : Y.1.cls = RL) (hd : decode Y.2.1 pc = .ok (.invokevirtual 37, 3)) (hst : st.length ≤ 8) (hf : fitsB Y Y_X10_drops = true) (hc : c0 + 0 ≤ Y.2.2.2.2.2.2.1) (hs : s0 + 0 ≤ Y.2.2.2.2.2.2.2) (ho : gx G n μ → 0 ≤ a ∧ a < n ∧ SH a = (10, 12)) (h : CI G Y_X10_drops [.inr a, .inl x0] n μ Q) (w : ∀ (x : Int) (n' : Nat) (ν : Mem), Q x n' ν → Wa G Y Z c0 s0 n' ν (pc + 3) L (.inl x :: st)) : Wa G Y Z c0 s0 n μ pc L (.inl x0 :: .inr a :: st) :=
  c_VI (Yc := Y_X10_drops) (As := [.inl x0]) rfl hd (by rw [hY]; exact lm_L_37) mc_X10_drops mi_X10_drops ms_X10_drops hst (fits_of hf hc hs) cf_10.2.1 (by decide) ho h rfl rfl w
theorem lm_L_40 : Cond.methodLink RL 40 yX11_drops ∈ gT := gT_mem (i := 1064) (by decide +kernel) (by decide +kernel)
theorem k_L_40 {G : GT} {Y : MD} {Z : ZT} {c0 s0 n pc : Nat} {μ : Mem} {L : List (Nat × AV)} {st : List AV} {a : Int} {x0 : Int} {Q : Int → Nat → Mem → Prop} (hY : Y.1.cls = RL) (hd : decode Y.2.1 pc = .ok (.invokevirtual 40, 3)) (hst : st.length ≤ 8) (hf : fitsB Y Y_X11_drops = true) (hc : c0 + 0 ≤ Y.2.2.2.2.2.2.1) (hs : s0 + 0 ≤ Y.2.2.2.2.2.2.2) (ho : gx G n μ → 0 ≤ a ∧ a < n ∧ SH a = (11, 28)) (h : CI G Y_X11_drops [.inr a, .inl x0] n μ Q) (w : ∀ (x : Int) (n' : Nat) (ν : Mem), Q x n' ν → Wa G Y Z c0 s0 n' ν (pc + 3) L (.inl x :: st)) : Wa G Y Z c0 s0 n μ pc L (.inl x0 :: .inr a :: st) :=
  c_VI (Yc := Y_X11_drops) (As := [.inl x0]) rfl hd (by rw [hY]; exact lm_L_40) mc_X11_drops mi_X11_drops ms_X11_drops hst (fits_of hf hc hs) cf_11.2.1 (by decide) ho h rfl rfl w
theorem lm_L_41 : Cond.methodLink RL 41 yX10_passes ∈ gT := gT_mem (i := 675) (by decide +kernel) (by decide +kernel)
theorem k_L_41 {G : GT} {Y : MD} {Z : ZT} {c0 s0 n pc : Nat} {μ : Mem} {L : List (Nat × AV)} {st : List AV} {a : Int} {x0 : Int} {Q : Int → Nat → Mem → Prop} (hY : Y.1.cls = RL) (hd : decode Y.2.1 pc = .ok (.invokevirtual 41, 3)) (hst : st.length ≤ 8) (hf : fitsB Y Y_X10_passes = true) (hc : c0 + 0 ≤ Y.2.2.2.2.2.2.1) (hs : s0 + 0 ≤ Y.2.2.2.2.2.2.2) (ho : gx G n μ → 0 ≤ a ∧ a < n ∧ SH a = (10, 12)) (h : CI G Y_X10_passes [.inr a, .inl x0] n μ Q) (w : ∀ (x : Int) (n' : Nat) (ν : Mem), Q x n' ν → Wa G Y Z c0 s0 n' ν (pc + 3) L (.inl x :: st)) : Wa G Y Z c0 s0 n μ pc L (.inl x0 :: .inr a :: st) :=
  c_VI (Yc := Y_X10_passes) (As := [.inl x0]) rfl hd (by rw [hY]; exact lm_L_41) mc_X10_passes mi_X10_passes ms_X10_passes hst (fits_of hf hc hs) cf_10.2.1 (by decide) ho h rfl rfl w
theorem lm_L_44 : Cond.methodLink RL 44 yX11_passes ∈ gT := gT_mem (i := 1072) (by decide +kernel) (by decide +kernel)
theorem k_L_44 {G : GT} {Y : MD} {Z : ZT} {c0 s0 n pc : Nat} {μ : Mem} {L : List (Nat × AV)} {st : List AV} {a : Int} {x0 : Int} {Q : Int → Nat → Mem → Prop} (hY : Y.1.cls = RL) (hd : decode Y.2.1 pc = .ok (.invokevirtual 44, 3)) (hst : st.length ≤ 8) (hf : fitsB Y Y_X11_passes = true) (hc : c0 + 0 ≤ Y.2.2.2.2.2.2.1) (hs : s0 + 0 ≤ Y.2.2.2.2.2.2.2) (ho : gx G n μ → 0 ≤ a ∧ a < n ∧ SH a = (11, 28)) (h : CI G Y_X11_passes [.inr a, .inl x0] n μ Q) (w : ∀ (x : Int) (n' : Nat) (ν : Mem), Q x n' ν → Wa G Y Z c0 s0 n' ν (pc + 3) L (.inl x :: st)) : Wa G Y Z c0 s0 n μ pc L (.inl x0 :: .inr a :: st) :=
  c_VI (Yc := Y_X11_passes) (As := [.inl x0]) rfl hd (by rw [hY]; exact lm_L_44) mc_X11_passes mi_X11_passes ms_X11_passes hst (fits_of hf hc hs) cf_11.2.1 (by decide) ho h rfl rfl w
theorem lm_L_45 : Cond.methodLink RL 45 yX10_misses ∈ gT := gT_mem (i := 692) (by decide +kernel) (by decide +kernel)
theorem k_L_45 {G : GT} {Y : MD} {Z : ZT} {c0 s0 n pc : Nat} {μ : Mem} {L : List (Nat × AV)} {st : List AV} {a : Int} {x0 : Int} {Q : Int → Nat → Mem → Prop} (hY : Y.1.cls = RL) (hd : decode Y.2.1 pc = .ok (.invokevirtual 45, 3)) (hst : st.length ≤ 8) (hf : fitsB Y Y_X10_misses = true) (hc : c0 + 0 ≤ Y.2.2.2.2.2.2.1) (hs : s0 + 0 ≤ Y.2.2.2.2.2.2.2) (ho : gx G n μ → 0 ≤ a ∧ a < n ∧ SH a = (10, 12)) (h : CI G Y_X10_misses [.inr a, .inl x0] n μ Q) (w : ∀ (x : Int) (n' : Nat) (ν : Mem), Q x n' ν → Wa G Y Z c0 s0 n' ν (pc + 3) L (.inl x :: st)) : Wa G Y Z c0 s0 n μ pc L (.inl x0 :: .inr a :: st) :=
  c_VI (Yc := Y_X10_misses) (As := [.inl x0]) rfl hd (by rw [hY]; exact lm_L_45) mc_X10_misses mi_X10_misses ms_X10_misses hst (fits_of hf hc hs) cf_10.2.1 (by decide) ho h rfl rfl w
theorem lm_L_48 : Cond.methodLink RL 48 yX11_misses ∈ gT := gT_mem (i := 1080) (by decide +kernel) (by decide +kernel)
theorem k_L_48 {G : GT} {Y : MD} {Z : ZT} {c0 s0 n pc : Nat} {μ : Mem} {L : List (Nat × AV)} {st : List AV} {a : Int} {x0 : Int} {Q : Int → Nat → Mem → Prop} (hY : Y.1.cls = RL) (hd : decode Y.2.1 pc = .ok (.invokevirtual 48, 3)) (hst : st.length ≤ 8) (hf : fitsB Y Y_X11_misses = true) (hc : c0 + 0 ≤ Y.2.2.2.2.2.2.1) (hs : s0 + 0 ≤ Y.2.2.2.2.2.2.2) (ho : gx G n μ → 0 ≤ a ∧ a < n ∧ SH a = (11, 28)) (h : CI G Y_X11_misses [.inr a, .inl x0] n μ Q) (w : ∀ (x : Int) (n' : Nat) (ν : Mem), Q x n' ν → Wa G Y Z c0 s0 n' ν (pc + 3) L (.inl x :: st)) : Wa G Y Z c0 s0 n μ pc L (.inl x0 :: .inr a :: st) :=
  c_VI (Yc := Y_X11_misses) (As := [.inl x0]) rfl hd (by rw [hY]; exact lm_L_48) mc_X11_misses mi_X11_misses ms_X11_misses hst (fits_of hf hc hs) cf_11.2.1 (by decide) ho h rfl rfl w
theorem lm_L_49 : Cond.methodLink RL 49 yX10_finds ∈ gT := gT_mem (i := 719) (by decide +kernel) (by decide +kernel)
theorem k_L_49 {G : GT} {Y : MD} {Z : ZT} {c0 s0 n pc : Nat} {μ : Mem} {L : List (Nat × AV)} {st : List AV} {a : Int} {x0 : Int} {Q : Int → Nat → Mem → Prop} (hY : Y.1.cls = RL) (hd : decode Y.2.1 pc = .ok (.invokevirtual 49, 3)) (hst : st.length ≤ 8) (hf : fitsB Y Y_X10_finds = true) (hc : c0 + 0 ≤ Y.2.2.2.2.2.2.1) (hs : s0 + 0 ≤ Y.2.2.2.2.2.2.2) (ho : gx G n μ → 0 ≤ a ∧ a < n ∧ SH a = (10, 12)) (h : CI G Y_X10_finds [.inr a, .inl x0] n μ Q) (w : ∀ (x : Int) (n' : Nat) (ν : Mem), Q x n' ν → Wa G Y Z c0 s0 n' ν (pc + 3) L (.inl x :: st)) : Wa G Y Z c0 s0 n μ pc L (.inl x0 :: .inr a :: st) :=
  c_VI (Yc := Y_X10_finds) (As := [.inl x0]) rfl hd (by rw [hY]; exact lm_L_49) mc_X10_finds mi_X10_finds ms_X10_finds hst (fits_of hf hc hs) cf_10.2.1 (by decide) ho h rfl rfl w
theorem lm_L_52 : Cond.methodLink RL 52 yX11_finds ∈ gT := gT_mem (i := 1096) (by decide +kernel) (by decide +kernel)
theorem k_L_52 {G : GT} {Y : MD} {Z : ZT} {c0 s0 n pc : Nat} {μ : Mem} {L : List (Nat × AV)} {st : List AV} {a : Int} {x0 : Int} {Q : Int → Nat → Mem → Prop} (hY : Y.1.cls = RL) (hd : decode Y.2.1 pc = .ok (.invokevirtual 52, 3)) (hst : st.length ≤ 8) (hf : fitsB Y Y_X11_finds = true) (hc : c0 + 0 ≤ Y.2.2.2.2.2.2.1) (hs : s0 + 0 ≤ Y.2.2.2.2.2.2.2) (ho : gx G n μ → 0 ≤ a ∧ a < n ∧ SH a = (11, 28)) (h : CI G Y_X11_finds [.inr a, .inl x0] n μ Q) (w : ∀ (x : Int) (n' : Nat) (ν : Mem), Q x n' ν → Wa G Y Z c0 s0 n' ν (pc + 3) L (.inl x :: st)) : Wa G Y Z c0 s0 n μ pc L (.inl x0 :: .inr a :: st) :=
  c_VI (Yc := Y_X11_finds) (As := [.inl x0]) rfl hd (by rw [hY]; exact lm_L_52) mc_X11_finds mi_X11_finds ms_X11_finds hst (fits_of hf hc hs) cf_11.2.1 (by decide) ho h rfl rfl w
theorem lm_L_53 : Cond.methodLink RL 53 yX10_undo ∈ gT := gT_mem (i := 727) (by decide +kernel) (by decide +kernel)
theorem k_L_53 {G : GT} {Y : MD} {Z : ZT} {c0 s0 n pc : Nat} {μ : Mem} {L : List (Nat × AV)} {st : List AV} {a : Int} {Q : Int → Nat → Mem → Prop} (hY : Y.1.cls = RL) (hd : decode Y.2.1 pc = .ok (.invokevirtual 53, 3)) (hst : st.length ≤ 8) (hf : fitsB Y Y_X10_undo = true) (hc : c0 + 0 ≤ Y.2.2.2.2.2.2.1) (hs : s0 + 0 ≤ Y.2.2.2.2.2.2.2) (ho : gx G n μ → 0 ≤ a ∧ a < n ∧ SH a = (10, 12)) (h : CI G Y_X10_undo [.inr a] n μ Q) (w : ∀ (x : Int) (n' : Nat) (ν : Mem), Q x n' ν → Wa G Y Z c0 s0 n' ν (pc + 3) L (.inl x :: st)) : Wa G Y Z c0 s0 n μ pc L (.inr a :: st) :=
  c_VI (Yc := Y_X10_undo) (As := []) rfl hd (by rw [hY]; exact lm_L_53) mc_X10_undo mi_X10_undo ms_X10_undo hst (fits_of hf hc hs) cf_10.2.1 (by decide) ho h rfl rfl w
theorem lm_L_56 : Cond.methodLink RL 56 yX11_undo ∈ gT := gT_mem (i := 1100) (by decide +kernel) (by decide +kernel)
theorem k_L_56 {G : GT} {Y : MD} {Z : ZT} {c0 s0 n pc : Nat} {μ : Mem} {L : List (Nat × AV)} {st : List AV} {a : Int} {Q : Int → Nat → Mem → Prop} (hY : Y.1.cls = RL) (hd : decode Y.2.1 pc = .ok (.invokevirtual 56, 3)) (hst : st.length ≤ 8) (hf : fitsB Y Y_X11_undo = true) (hc : c0 + 0 ≤ Y.2.2.2.2.2.2.1) (hs : s0 + 0 ≤ Y.2.2.2.2.2.2.2) (ho : gx G n μ → 0 ≤ a ∧ a < n ∧ SH a = (11, 28)) (h : CI G Y_X11_undo [.inr a] n μ Q) (w : ∀ (x : Int) (n' : Nat) (ν : Mem), Q x n' ν → Wa G Y Z c0 s0 n' ν (pc + 3) L (.inl x :: st)) : Wa G Y Z c0 s0 n μ pc L (.inr a :: st) :=
  c_VI (Yc := Y_X11_undo) (As := []) rfl hd (by rw [hY]; exact lm_L_56) mc_X11_undo mi_X11_undo ms_X11_undo hst (fits_of hf hc hs) cf_11.2.1 (by decide) ho h rfl rfl w
theorem lm_L_57 : Cond.methodLink RL 57 yX10_bundle ∈ gT := gT_mem (i := 735) (by decide +kernel) (by decide +kernel)
theorem k_L_57 {G : GT} {Y : MD} {Z : ZT} {c0 s0 n pc : Nat} {μ : Mem} {L : List (Nat × AV)} {st : List AV} {a : Int} {x0 x1 : Int} {Q : Int → Nat → Mem → Prop} (hY : Y.1.cls = RL) (hd : decode Y.2.1 pc = .ok (.invokevirtual 57, 3)) (hst : st.length ≤ 8) (hf : fitsB Y Y_X10_bundle = true) (hc : c0 + 0 ≤ Y.2.2.2.2.2.2.1) (hs : s0 + 0 ≤ Y.2.2.2.2.2.2.2) (ho : gx G n μ → 0 ≤ a ∧ a < n ∧ SH a = (10, 12)) (h : CI G Y_X10_bundle [.inr a, .inl x0, .inl x1] n μ Q) (w : ∀ (x : Int) (n' : Nat) (ν : Mem), Q x n' ν → Wa G Y Z c0 s0 n' ν (pc + 3) L (.inl x :: st)) : Wa G Y Z c0 s0 n μ pc L (.inl x1 :: .inl x0 :: .inr a :: st) :=
  c_VI (Yc := Y_X10_bundle) (As := [.inl x0, .inl x1]) rfl hd (by rw [hY]; exact lm_L_57) mc_X10_bundle mi_X10_bundle ms_X10_bundle hst (fits_of hf hc hs) cf_10.2.1 (by decide) ho h rfl rfl w
theorem lm_L_60 : Cond.methodLink RL 60 yX11_bundle ∈ gT := gT_mem (i := 1104) (by decide +kernel) (by decide +kernel)
theorem k_L_60 {G : GT} {Y : MD} {Z : ZT} {c0 s0 n pc : Nat} {μ : Mem} {L : List (Nat × AV)} {st : List AV} {a : Int} {x0 x1 : Int} {Q : Int → Nat → Mem → Prop} (hY : Y.1.cls = RL) (hd : decode Y.2.1 pc = .ok (.invokevirtual 60, 3)) (hst : st.length ≤ 8) (hf : fitsB Y Y_X11_bundle = true) (hc : c0 + 0 ≤ Y.2.2.2.2.2.2.1) (hs : s0 + 0 ≤ Y.2.2.2.2.2.2.2) (ho : gx G n μ → 0 ≤ a ∧ a < n ∧ SH a = (11, 28)) (h : CI G Y_X11_bundle [.inr a, .inl x0, .inl x1] n μ Q) (w : ∀ (x : Int) (n' : Nat) (ν : Mem), Q x n' ν → Wa G Y Z c0 s0 n' ν (pc + 3) L (.inl x :: st)) : Wa G Y Z c0 s0 n μ pc L (.inl x1 :: .inl x0 :: .inr a :: st) :=
  c_VI (Yc := Y_X11_bundle) (As := [.inl x0, .inl x1]) rfl hd (by rw [hY]; exact lm_L_60) mc_X11_bundle mi_X11_bundle ms_X11_bundle hst (fits_of hf hc hs) cf_11.2.1 (by decide) ho h rfl rfl w
theorem lm_L_61 : Cond.methodLink RL 61 yX10_hop ∈ gT := gT_mem (i := 745) (by decide +kernel) (by decide +kernel)
theorem k_L_61 {G : GT} {Y : MD} {Z : ZT} {c0 s0 n pc : Nat} {μ : Mem} {L : List (Nat × AV)} {st : List AV} {a : Int} {x0 x1 x2 : Int} {Q : Int → Nat → Mem → Prop} (hY : Y.1.cls = RL) (hd : decode Y.2.1 pc = .ok (.invokevirtual 61, 3)) (hst : st.length ≤ 8) (hf : fitsB Y Y_X10_hop = true) (hc : c0 + 0 ≤ Y.2.2.2.2.2.2.1) (hs : s0 + 0 ≤ Y.2.2.2.2.2.2.2) (ho : gx G n μ → 0 ≤ a ∧ a < n ∧ SH a = (10, 12)) (h : CI G Y_X10_hop [.inr a, .inl x0, .inl x1, .inl x2] n μ Q) (w : ∀ (x : Int) (n' : Nat) (ν : Mem), Q x n' ν → Wa G Y Z c0 s0 n' ν (pc + 3) L (.inl x :: st)) : Wa G Y Z c0 s0 n μ pc L (.inl x2 :: .inl x1 :: .inl x0 :: .inr a :: st) :=
  c_VI (Yc := Y_X10_hop) (As := [.inl x0, .inl x1, .inl x2]) rfl hd (by rw [hY]; exact lm_L_61) mc_X10_hop mi_X10_hop ms_X10_hop hst (fits_of hf hc hs) cf_10.2.1 (by decide) ho h rfl rfl w
theorem lm_L_65 : Cond.methodLink RL 65 yX11_hop ∈ gT := gT_mem (i := 1108) (by decide +kernel) (by decide +kernel)
theorem k_L_65 {G : GT} {Y : MD} {Z : ZT} {c0 s0 n pc : Nat} {μ : Mem} {L : List (Nat × AV)} {st : List AV} {a : Int} {x0 x1 x2 : Int} {Q : Int → Nat → Mem → Prop} (hY : Y.1.cls = RL) (hd : decode Y.2.1 pc = .ok (.invokevirtual 65, 3)) (hst : st.length ≤ 8) (hf : fitsB Y Y_X11_hop = true) (hc : c0 + 0 ≤ Y.2.2.2.2.2.2.1) (hs : s0 + 0 ≤ Y.2.2.2.2.2.2.2) (ho : gx G n μ → 0 ≤ a ∧ a < n ∧ SH a = (11, 28)) (h : CI G Y_X11_hop [.inr a, .inl x0, .inl x1, .inl x2] n μ Q) (w : ∀ (x : Int) (n' : Nat) (ν : Mem), Q x n' ν → Wa G Y Z c0 s0 n' ν (pc + 3) L (.inl x :: st)) : Wa G Y Z c0 s0 n μ pc L (.inl x2 :: .inl x1 :: .inl x0 :: .inr a :: st) :=
  c_VI (Yc := Y_X11_hop) (As := [.inl x0, .inl x1, .inl x2]) rfl hd (by rw [hY]; exact lm_L_65) mc_X11_hop mi_X11_hop ms_X11_hop hst (fits_of hf hc hs) cf_11.2.1 (by decide) ho h rfl rfl w
theorem lm_L_66 : Cond.methodLink RL 66 yX10_tick ∈ gT := gT_mem (i := 750) (by decide +kernel) (by decide +kernel)
theorem k_L_66 {G : GT} {Y : MD} {Z : ZT} {c0 s0 n pc : Nat} {μ : Mem} {L : List (Nat × AV)} {st : List AV} {a : Int} {x0 x1 : Int} {Q : Int → Nat → Mem → Prop} (hY : Y.1.cls = RL) (hd : decode Y.2.1 pc = .ok (.invokevirtual 66, 3)) (hst : st.length ≤ 8) (hf : fitsB Y Y_X10_tick = true) (hc : c0 + 0 ≤ Y.2.2.2.2.2.2.1) (hs : s0 + 0 ≤ Y.2.2.2.2.2.2.2) (ho : gx G n μ → 0 ≤ a ∧ a < n ∧ SH a = (10, 12)) (h : CI G Y_X10_tick [.inr a, .inl x0, .inl x1] n μ Q) (w : ∀ (x : Int) (n' : Nat) (ν : Mem), Q x n' ν → Wa G Y Z c0 s0 n' ν (pc + 3) L (.inl x :: st)) : Wa G Y Z c0 s0 n μ pc L (.inl x1 :: .inl x0 :: .inr a :: st) :=
  c_VI (Yc := Y_X10_tick) (As := [.inl x0, .inl x1]) rfl hd (by rw [hY]; exact lm_L_66) mc_X10_tick mi_X10_tick ms_X10_tick hst (fits_of hf hc hs) cf_10.2.1 (by decide) ho h rfl rfl w
theorem lm_L_69 : Cond.methodLink RL 69 yX11_tick ∈ gT := gT_mem (i := 1112) (by decide +kernel) (by decide +kernel)
theorem k_L_69 {G : GT} {Y : MD} {Z : ZT} {c0 s0 n pc : Nat} {μ : Mem} {L : List (Nat × AV)} {st : List AV} {a : Int} {x0 x1 : Int} {Q : Int → Nat → Mem → Prop} (hY : Y.1.cls = RL) (hd : decode Y.2.1 pc = .ok (.invokevirtual 69, 3)) (hst : st.length ≤ 8) (hf : fitsB Y Y_X11_tick = true) (hc : c0 + 0 ≤ Y.2.2.2.2.2.2.1) (hs : s0 + 0 ≤ Y.2.2.2.2.2.2.2) (ho : gx G n μ → 0 ≤ a ∧ a < n ∧ SH a = (11, 28)) (h : CI G Y_X11_tick [.inr a, .inl x0, .inl x1] n μ Q) (w : ∀ (x : Int) (n' : Nat) (ν : Mem), Q x n' ν → Wa G Y Z c0 s0 n' ν (pc + 3) L (.inl x :: st)) : Wa G Y Z c0 s0 n μ pc L (.inl x1 :: .inl x0 :: .inr a :: st) :=
  c_VI (Yc := Y_X11_tick) (As := [.inl x0, .inl x1]) rfl hd (by rw [hY]; exact lm_L_69) mc_X11_tick mi_X11_tick ms_X11_tick hst (fits_of hf hc hs) cf_11.2.1 (by decide) ho h rfl rfl w
theorem lm_L_70 : Cond.methodLink RL 70 yX10_asks ∈ gT := gT_mem (i := 762) (by decide +kernel) (by decide +kernel)
theorem k_L_70 {G : GT} {Y : MD} {Z : ZT} {c0 s0 n pc : Nat} {μ : Mem} {L : List (Nat × AV)} {st : List AV} {a : Int} {x0 x1 x2 x3 : Int} {Q : Int → Nat → Mem → Prop} (hY : Y.1.cls = RL) (hd : decode Y.2.1 pc = .ok (.invokevirtual 70, 3)) (hst : st.length ≤ 8) (hf : fitsB Y Y_X10_asks = true) (hc : c0 + 0 ≤ Y.2.2.2.2.2.2.1) (hs : s0 + 0 ≤ Y.2.2.2.2.2.2.2) (ho : gx G n μ → 0 ≤ a ∧ a < n ∧ SH a = (10, 12)) (h : CI G Y_X10_asks [.inr a, .inl x0, .inl x1, .inl x2, .inl x3] n μ Q) (w : ∀ (x : Int) (n' : Nat) (ν : Mem), Q x n' ν → Wa G Y Z c0 s0 n' ν (pc + 3) L (.inl x :: st)) : Wa G Y Z c0 s0 n μ pc L (.inl x3 :: .inl x2 :: .inl x1 :: .inl x0 :: .inr a :: st) :=
  c_VI (Yc := Y_X10_asks) (As := [.inl x0, .inl x1, .inl x2, .inl x3]) rfl hd (by rw [hY]; exact lm_L_70) mc_X10_asks mi_X10_asks ms_X10_asks hst (fits_of hf hc hs) cf_10.2.1 (by decide) ho h rfl rfl w
theorem lm_L_74 : Cond.methodLink RL 74 yX11_asks ∈ gT := gT_mem (i := 1120) (by decide +kernel) (by decide +kernel)
theorem k_L_74 {G : GT} {Y : MD} {Z : ZT} {c0 s0 n pc : Nat} {μ : Mem} {L : List (Nat × AV)} {st : List AV} {a : Int} {x0 x1 x2 x3 : Int} {Q : Int → Nat → Mem → Prop} (hY : Y.1.cls = RL) (hd : decode Y.2.1 pc = .ok (.invokevirtual 74, 3)) (hst : st.length ≤ 8) (hf : fitsB Y Y_X11_asks = true) (hc : c0 + 0 ≤ Y.2.2.2.2.2.2.1) (hs : s0 + 0 ≤ Y.2.2.2.2.2.2.2) (ho : gx G n μ → 0 ≤ a ∧ a < n ∧ SH a = (11, 28)) (h : CI G Y_X11_asks [.inr a, .inl x0, .inl x1, .inl x2, .inl x3] n μ Q) (w : ∀ (x : Int) (n' : Nat) (ν : Mem), Q x n' ν → Wa G Y Z c0 s0 n' ν (pc + 3) L (.inl x :: st)) : Wa G Y Z c0 s0 n μ pc L (.inl x3 :: .inl x2 :: .inl x1 :: .inl x0 :: .inr a :: st) :=
  c_VI (Yc := Y_X11_asks) (As := [.inl x0, .inl x1, .inl x2, .inl x3]) rfl hd (by rw [hY]; exact lm_L_74) mc_X11_asks mi_X11_asks ms_X11_asks hst (fits_of hf hc hs) cf_11.2.1 (by decide) ho h rfl rfl w
theorem lm_L_75 : Cond.methodLink RL 75 yX10_largest ∈ gT := gT_mem (i := 772) (by decide +kernel) (by decide +kernel)
theorem k_L_75 {G : GT} {Y : MD} {Z : ZT} {c0 s0 n pc : Nat} {μ : Mem} {L : List (Nat × AV)} {st : List AV} {a : Int} {x0 x1 x2 x3 : Int} {Q : Int → Nat → Mem → Prop} (hY : Y.1.cls = RL) (hd : decode Y.2.1 pc = .ok (.invokevirtual 75, 3)) (hst : st.length ≤ 8) (hf : fitsB Y Y_X10_largest = true) (hc : c0 + 0 ≤ Y.2.2.2.2.2.2.1) (hs : s0 + 0 ≤ Y.2.2.2.2.2.2.2) (ho : gx G n μ → 0 ≤ a ∧ a < n ∧ SH a = (10, 12)) (h : CI G Y_X10_largest [.inr a, .inl x0, .inl x1, .inl x2, .inl x3] n μ Q) (w : ∀ (x : Int) (n' : Nat) (ν : Mem), Q x n' ν → Wa G Y Z c0 s0 n' ν (pc + 3) L (.inl x :: st)) : Wa G Y Z c0 s0 n μ pc L (.inl x3 :: .inl x2 :: .inl x1 :: .inl x0 :: .inr a :: st) :=
  c_VI (Yc := Y_X10_largest) (As := [.inl x0, .inl x1, .inl x2, .inl x3]) rfl hd (by rw [hY]; exact lm_L_75) mc_X10_largest mi_X10_largest ms_X10_largest hst (fits_of hf hc hs) cf_10.2.1 (by decide) ho h rfl rfl w
theorem lm_L_78 : Cond.methodLink RL 78 yX11_largest ∈ gT := gT_mem (i := 1128) (by decide +kernel) (by decide +kernel)
theorem k_L_78 {G : GT} {Y : MD} {Z : ZT} {c0 s0 n pc : Nat} {μ : Mem} {L : List (Nat × AV)} {st : List AV} {a : Int} {x0 x1 x2 x3 : Int} {Q : Int → Nat → Mem → Prop} (hY : Y.1.cls = RL) (hd : decode Y.2.1 pc = .ok (.invokevirtual 78, 3)) (hst : st.length ≤ 8) (hf : fitsB Y Y_X11_largest = true) (hc : c0 + 0 ≤ Y.2.2.2.2.2.2.1) (hs : s0 + 0 ≤ Y.2.2.2.2.2.2.2) (ho : gx G n μ → 0 ≤ a ∧ a < n ∧ SH a = (11, 28)) (h : CI G Y_X11_largest [.inr a, .inl x0, .inl x1, .inl x2, .inl x3] n μ Q) (w : ∀ (x : Int) (n' : Nat) (ν : Mem), Q x n' ν → Wa G Y Z c0 s0 n' ν (pc + 3) L (.inl x :: st)) : Wa G Y Z c0 s0 n μ pc L (.inl x3 :: .inl x2 :: .inl x1 :: .inl x0 :: .inr a :: st) :=
  c_VI (Yc := Y_X11_largest) (As := [.inl x0, .inl x1, .inl x2, .inl x3]) rfl hd (by rw [hY]; exact lm_L_78) mc_X11_largest mi_X11_largest ms_X11_largest hst (fits_of hf hc hs) cf_11.2.1 (by decide) ho h rfl rfl w
theorem lm_L_79 : Cond.methodLink RL 79 yX10_worst ∈ gT := gT_mem (i := 776) (by decide +kernel) (by decide +kernel)
theorem k_L_79 {G : GT} {Y : MD} {Z : ZT} {c0 s0 n pc : Nat} {μ : Mem} {L : List (Nat × AV)} {st : List AV} {a : Int} {Q : Int → Nat → Mem → Prop} (hY : Y.1.cls = RL) (hd : decode Y.2.1 pc = .ok (.invokevirtual 79, 3)) (hst : st.length ≤ 8) (hf : fitsB Y Y_X10_worst = true) (hc : c0 + 0 ≤ Y.2.2.2.2.2.2.1) (hs : s0 + 0 ≤ Y.2.2.2.2.2.2.2) (ho : gx G n μ → 0 ≤ a ∧ a < n ∧ SH a = (10, 12)) (h : CI G Y_X10_worst [.inr a] n μ Q) (w : ∀ (x : Int) (n' : Nat) (ν : Mem), Q x n' ν → Wa G Y Z c0 s0 n' ν (pc + 3) L (.inl x :: st)) : Wa G Y Z c0 s0 n μ pc L (.inr a :: st) :=
  c_VI (Yc := Y_X10_worst) (As := []) rfl hd (by rw [hY]; exact lm_L_79) mc_X10_worst mi_X10_worst ms_X10_worst hst (fits_of hf hc hs) cf_10.2.1 (by decide) ho h rfl rfl w
theorem lm_L_82 : Cond.methodLink RL 82 yX11_worst ∈ gT := gT_mem (i := 1132) (by decide +kernel) (by decide +kernel)
theorem k_L_82 {G : GT} {Y : MD} {Z : ZT} {c0 s0 n pc : Nat} {μ : Mem} {L : List (Nat × AV)} {st : List AV} {a : Int} {Q : Int → Nat → Mem → Prop} (hY : Y.1.cls = RL) (hd : decode Y.2.1 pc = .ok (.invokevirtual 82, 3)) (hst : st.length ≤ 8) (hf : fitsB Y Y_X11_worst = true) (hc : c0 + 0 ≤ Y.2.2.2.2.2.2.1) (hs : s0 + 0 ≤ Y.2.2.2.2.2.2.2) (ho : gx G n μ → 0 ≤ a ∧ a < n ∧ SH a = (11, 28)) (h : CI G Y_X11_worst [.inr a] n μ Q) (w : ∀ (x : Int) (n' : Nat) (ν : Mem), Q x n' ν → Wa G Y Z c0 s0 n' ν (pc + 3) L (.inl x :: st)) : Wa G Y Z c0 s0 n μ pc L (.inr a :: st) :=
  c_VI (Yc := Y_X11_worst) (As := []) rfl hd (by rw [hY]; exact lm_L_82) mc_X11_worst mi_X11_worst ms_X11_worst hst (fits_of hf hc hs) cf_11.2.1 (by decide) ho h rfl rfl w
theorem lm_L_83 : Cond.methodLink RL 83 yX10_sees ∈ gT := gT_mem (i := 781) (by decide +kernel) (by decide +kernel)
theorem k_L_83 {G : GT} {Y : MD} {Z : ZT} {c0 s0 n pc : Nat} {μ : Mem} {L : List (Nat × AV)} {st : List AV} {a : Int} {x0 x1 x2 : Int} {Q : Int → Nat → Mem → Prop} (hY : Y.1.cls = RL) (hd : decode Y.2.1 pc = .ok (.invokevirtual 83, 3)) (hst : st.length ≤ 8) (hf : fitsB Y Y_X10_sees = true) (hc : c0 + 0 ≤ Y.2.2.2.2.2.2.1) (hs : s0 + 0 ≤ Y.2.2.2.2.2.2.2) (ho : gx G n μ → 0 ≤ a ∧ a < n ∧ SH a = (10, 12)) (h : CI G Y_X10_sees [.inr a, .inl x0, .inl x1, .inl x2] n μ Q) (w : ∀ (x : Int) (n' : Nat) (ν : Mem), Q x n' ν → Wa G Y Z c0 s0 n' ν (pc + 3) L (.inl x :: st)) : Wa G Y Z c0 s0 n μ pc L (.inl x2 :: .inl x1 :: .inl x0 :: .inr a :: st) :=
  c_VI (Yc := Y_X10_sees) (As := [.inl x0, .inl x1, .inl x2]) rfl hd (by rw [hY]; exact lm_L_83) mc_X10_sees mi_X10_sees ms_X10_sees hst (fits_of hf hc hs) cf_10.2.1 (by decide) ho h rfl rfl w
theorem lm_L_86 : Cond.methodLink RL 86 yX11_sees ∈ gT := gT_mem (i := 1136) (by decide +kernel) (by decide +kernel)
theorem k_L_86 {G : GT} {Y : MD} {Z : ZT} {c0 s0 n pc : Nat} {μ : Mem} {L : List (Nat × AV)} {st : List AV} {a : Int} {x0 x1 x2 : Int} {Q : Int → Nat → Mem → Prop} (hY : Y.1.cls = RL) (hd : decode Y.2.1 pc = .ok (.invokevirtual 86, 3)) (hst : st.length ≤ 8) (hf : fitsB Y Y_X11_sees = true) (hc : c0 + 0 ≤ Y.2.2.2.2.2.2.1) (hs : s0 + 0 ≤ Y.2.2.2.2.2.2.2) (ho : gx G n μ → 0 ≤ a ∧ a < n ∧ SH a = (11, 28)) (h : CI G Y_X11_sees [.inr a, .inl x0, .inl x1, .inl x2] n μ Q) (w : ∀ (x : Int) (n' : Nat) (ν : Mem), Q x n' ν → Wa G Y Z c0 s0 n' ν (pc + 3) L (.inl x :: st)) : Wa G Y Z c0 s0 n μ pc L (.inl x2 :: .inl x1 :: .inl x0 :: .inr a :: st) :=
  c_VI (Yc := Y_X11_sees) (As := [.inl x0, .inl x1, .inl x2]) rfl hd (by rw [hY]; exact lm_L_86) mc_X11_sees mi_X11_sees ms_X11_sees hst (fits_of hf hc hs) cf_11.2.1 (by decide) ho h rfl rfl w
theorem lm_L_87 : Cond.methodLink RL 87 yX10_forget ∈ gT := gT_mem (i := 787) (by decide +kernel) (by decide +kernel)
theorem k_L_87 {G : GT} {Y : MD} {Z : ZT} {c0 s0 n pc : Nat} {μ : Mem} {L : List (Nat × AV)} {st : List AV} {a : Int} {Q : Int → Nat → Mem → Prop} (hY : Y.1.cls = RL) (hd : decode Y.2.1 pc = .ok (.invokevirtual 87, 3)) (hst : st.length ≤ 8) (hf : fitsB Y Y_X10_forget = true) (hc : c0 + 0 ≤ Y.2.2.2.2.2.2.1) (hs : s0 + 0 ≤ Y.2.2.2.2.2.2.2) (ho : gx G n μ → 0 ≤ a ∧ a < n ∧ SH a = (10, 12)) (h : CI G Y_X10_forget [.inr a] n μ Q) (w : ∀ (x : Int) (n' : Nat) (ν : Mem), Q x n' ν → Wa G Y Z c0 s0 n' ν (pc + 3) L (.inl x :: st)) : Wa G Y Z c0 s0 n μ pc L (.inr a :: st) :=
  c_VI (Yc := Y_X10_forget) (As := []) rfl hd (by rw [hY]; exact lm_L_87) mc_X10_forget mi_X10_forget ms_X10_forget hst (fits_of hf hc hs) cf_10.2.1 (by decide) ho h rfl rfl w
theorem lm_L_90 : Cond.methodLink RL 90 yX11_forget ∈ gT := gT_mem (i := 1140) (by decide +kernel) (by decide +kernel)
theorem k_L_90 {G : GT} {Y : MD} {Z : ZT} {c0 s0 n pc : Nat} {μ : Mem} {L : List (Nat × AV)} {st : List AV} {a : Int} {Q : Int → Nat → Mem → Prop} (hY : Y.1.cls = RL) (hd : decode Y.2.1 pc = .ok (.invokevirtual 90, 3)) (hst : st.length ≤ 8) (hf : fitsB Y Y_X11_forget = true) (hc : c0 + 0 ≤ Y.2.2.2.2.2.2.1) (hs : s0 + 0 ≤ Y.2.2.2.2.2.2.2) (ho : gx G n μ → 0 ≤ a ∧ a < n ∧ SH a = (11, 28)) (h : CI G Y_X11_forget [.inr a] n μ Q) (w : ∀ (x : Int) (n' : Nat) (ν : Mem), Q x n' ν → Wa G Y Z c0 s0 n' ν (pc + 3) L (.inl x :: st)) : Wa G Y Z c0 s0 n μ pc L (.inr a :: st) :=
  c_VI (Yc := Y_X11_forget) (As := []) rfl hd (by rw [hY]; exact lm_L_90) mc_X11_forget mi_X11_forget ms_X11_forget hst (fits_of hf hc hs) cf_11.2.1 (by decide) ho h rfl rfl w
theorem lm_L_91 : Cond.methodLink RL 91 yX10_unseen ∈ gT := gT_mem (i := 791) (by decide +kernel) (by decide +kernel)
theorem k_L_91 {G : GT} {Y : MD} {Z : ZT} {c0 s0 n pc : Nat} {μ : Mem} {L : List (Nat × AV)} {st : List AV} {a : Int} {Q : Int → Nat → Mem → Prop} (hY : Y.1.cls = RL) (hd : decode Y.2.1 pc = .ok (.invokevirtual 91, 3)) (hst : st.length ≤ 8) (hf : fitsB Y Y_X10_unseen = true) (hc : c0 + 0 ≤ Y.2.2.2.2.2.2.1) (hs : s0 + 0 ≤ Y.2.2.2.2.2.2.2) (ho : gx G n μ → 0 ≤ a ∧ a < n ∧ SH a = (10, 12)) (h : CI G Y_X10_unseen [.inr a] n μ Q) (w : ∀ (x : Int) (n' : Nat) (ν : Mem), Q x n' ν → Wa G Y Z c0 s0 n' ν (pc + 3) L (.inl x :: st)) : Wa G Y Z c0 s0 n μ pc L (.inr a :: st) :=
  c_VI (Yc := Y_X10_unseen) (As := []) rfl hd (by rw [hY]; exact lm_L_91) mc_X10_unseen mi_X10_unseen ms_X10_unseen hst (fits_of hf hc hs) cf_10.2.1 (by decide) ho h rfl rfl w
theorem lm_L_94 : Cond.methodLink RL 94 yX11_unseen ∈ gT := gT_mem (i := 1144) (by decide +kernel) (by decide +kernel)
theorem k_L_94 {G : GT} {Y : MD} {Z : ZT} {c0 s0 n pc : Nat} {μ : Mem} {L : List (Nat × AV)} {st : List AV} {a : Int} {Q : Int → Nat → Mem → Prop} (hY : Y.1.cls = RL) (hd : decode Y.2.1 pc = .ok (.invokevirtual 94, 3)) (hst : st.length ≤ 8) (hf : fitsB Y Y_X11_unseen = true) (hc : c0 + 0 ≤ Y.2.2.2.2.2.2.1) (hs : s0 + 0 ≤ Y.2.2.2.2.2.2.2) (ho : gx G n μ → 0 ≤ a ∧ a < n ∧ SH a = (11, 28)) (h : CI G Y_X11_unseen [.inr a] n μ Q) (w : ∀ (x : Int) (n' : Nat) (ν : Mem), Q x n' ν → Wa G Y Z c0 s0 n' ν (pc + 3) L (.inl x :: st)) : Wa G Y Z c0 s0 n μ pc L (.inr a :: st) :=
  c_VI (Yc := Y_X11_unseen) (As := []) rfl hd (by rw [hY]; exact lm_L_94) mc_X11_unseen mi_X11_unseen ms_X11_unseen hst (fits_of hf hc hs) cf_11.2.1 (by decide) ho h rfl rfl w
theorem lm_L_95 : Cond.methodLink RL 95 yX10_keep ∈ gT := gT_mem (i := 799) (by decide +kernel) (by decide +kernel)
theorem k_L_95 {G : GT} {Y : MD} {Z : ZT} {c0 s0 n pc : Nat} {μ : Mem} {L : List (Nat × AV)} {st : List AV} {a : Int} {x0 : Int} {Q : Int → Nat → Mem → Prop} (hY : Y.1.cls = RL) (hd : decode Y.2.1 pc = .ok (.invokevirtual 95, 3)) (hst : st.length ≤ 8) (hf : fitsB Y Y_X10_keep = true) (hc : c0 + 0 ≤ Y.2.2.2.2.2.2.1) (hs : s0 + 0 ≤ Y.2.2.2.2.2.2.2) (ho : gx G n μ → 0 ≤ a ∧ a < n ∧ SH a = (10, 12)) (h : CI G Y_X10_keep [.inr a, .inl x0] n μ Q) (w : ∀ (x : Int) (n' : Nat) (ν : Mem), Q x n' ν → Wa G Y Z c0 s0 n' ν (pc + 3) L (.inl x :: st)) : Wa G Y Z c0 s0 n μ pc L (.inl x0 :: .inr a :: st) :=
  c_VI (Yc := Y_X10_keep) (As := [.inl x0]) rfl hd (by rw [hY]; exact lm_L_95) mc_X10_keep mi_X10_keep ms_X10_keep hst (fits_of hf hc hs) cf_10.2.1 (by decide) ho h rfl rfl w
theorem lm_L_98 : Cond.methodLink RL 98 yX11_keep ∈ gT := gT_mem (i := 1148) (by decide +kernel) (by decide +kernel)
theorem k_L_98 {G : GT} {Y : MD} {Z : ZT} {c0 s0 n pc : Nat} {μ : Mem} {L : List (Nat × AV)} {st : List AV} {a : Int} {x0 : Int} {Q : Int → Nat → Mem → Prop} (hY : Y.1.cls = RL) (hd : decode Y.2.1 pc = .ok (.invokevirtual 98, 3)) (hst : st.length ≤ 8) (hf : fitsB Y Y_X11_keep = true) (hc : c0 + 0 ≤ Y.2.2.2.2.2.2.1) (hs : s0 + 0 ≤ Y.2.2.2.2.2.2.2) (ho : gx G n μ → 0 ≤ a ∧ a < n ∧ SH a = (11, 28)) (h : CI G Y_X11_keep [.inr a, .inl x0] n μ Q) (w : ∀ (x : Int) (n' : Nat) (ν : Mem), Q x n' ν → Wa G Y Z c0 s0 n' ν (pc + 3) L (.inl x :: st)) : Wa G Y Z c0 s0 n μ pc L (.inl x0 :: .inr a :: st) :=
  c_VI (Yc := Y_X11_keep) (As := [.inl x0]) rfl hd (by rw [hY]; exact lm_L_98) mc_X11_keep mi_X11_keep ms_X11_keep hst (fits_of hf hc hs) cf_11.2.1 (by decide) ho h rfl rfl w
theorem lm_L_99 : Cond.methodLink RL 99 yX10_back ∈ gT := gT_mem (i := 807) (by decide +kernel) (by decide +kernel)
theorem k_L_99 {G : GT} {Y : MD} {Z : ZT} {c0 s0 n pc : Nat} {μ : Mem} {L : List (Nat × AV)} {st : List AV} {a : Int} {x0 : Int} {Q : Int → Nat → Mem → Prop} (hY : Y.1.cls = RL) (hd : decode Y.2.1 pc = .ok (.invokevirtual 99, 3)) (hst : st.length ≤ 8) (hf : fitsB Y Y_X10_back = true) (hc : c0 + 0 ≤ Y.2.2.2.2.2.2.1) (hs : s0 + 0 ≤ Y.2.2.2.2.2.2.2) (ho : gx G n μ → 0 ≤ a ∧ a < n ∧ SH a = (10, 12)) (h : CI G Y_X10_back [.inr a, .inl x0] n μ Q) (w : ∀ (x : Int) (n' : Nat) (ν : Mem), Q x n' ν → Wa G Y Z c0 s0 n' ν (pc + 3) L (.inl x :: st)) : Wa G Y Z c0 s0 n μ pc L (.inl x0 :: .inr a :: st) :=
  c_VI (Yc := Y_X10_back) (As := [.inl x0]) rfl hd (by rw [hY]; exact lm_L_99) mc_X10_back mi_X10_back ms_X10_back hst (fits_of hf hc hs) cf_10.2.1 (by decide) ho h rfl rfl w
theorem lm_L_102 : Cond.methodLink RL 102 yX11_back ∈ gT := gT_mem (i := 1152) (by decide +kernel) (by decide +kernel)
theorem k_L_102 {G : GT} {Y : MD} {Z : ZT} {c0 s0 n pc : Nat} {μ : Mem} {L : List (Nat × AV)} {st : List AV} {a : Int} {x0 : Int} {Q : Int → Nat → Mem → Prop} (hY : Y.1.cls = RL) (hd : decode Y.2.1 pc = .ok (.invokevirtual 102, 3)) (hst : st.length ≤ 8) (hf : fitsB Y Y_X11_back = true) (hc : c0 + 0 ≤ Y.2.2.2.2.2.2.1) (hs : s0 + 0 ≤ Y.2.2.2.2.2.2.2) (ho : gx G n μ → 0 ≤ a ∧ a < n ∧ SH a = (11, 28)) (h : CI G Y_X11_back [.inr a, .inl x0] n μ Q) (w : ∀ (x : Int) (n' : Nat) (ν : Mem), Q x n' ν → Wa G Y Z c0 s0 n' ν (pc + 3) L (.inl x :: st)) : Wa G Y Z c0 s0 n μ pc L (.inl x0 :: .inr a :: st) :=
  c_VI (Yc := Y_X11_back) (As := [.inl x0]) rfl hd (by rw [hY]; exact lm_L_102) mc_X11_back mi_X11_back ms_X11_back hst (fits_of hf hc hs) cf_11.2.1 (by decide) ho h rfl rfl w
theorem lm_L_103 : Cond.methodLink RL 103 yX10_count ∈ gT := gT_mem (i := 811) (by decide +kernel) (by decide +kernel)
theorem k_L_103 {G : GT} {Y : MD} {Z : ZT} {c0 s0 n pc : Nat} {μ : Mem} {L : List (Nat × AV)} {st : List AV} {a : Int} {x0 : Int} {Q : Int → Nat → Mem → Prop} (hY : Y.1.cls = RL) (hd : decode Y.2.1 pc = .ok (.invokevirtual 103, 3)) (hst : st.length ≤ 8) (hf : fitsB Y Y_X10_count = true) (hc : c0 + 0 ≤ Y.2.2.2.2.2.2.1) (hs : s0 + 0 ≤ Y.2.2.2.2.2.2.2) (ho : gx G n μ → 0 ≤ a ∧ a < n ∧ SH a = (10, 12)) (h : CI G Y_X10_count [.inr a, .inl x0] n μ Q) (w : ∀ (x : Int) (n' : Nat) (ν : Mem), Q x n' ν → Wa G Y Z c0 s0 n' ν (pc + 3) L (.inl x :: st)) : Wa G Y Z c0 s0 n μ pc L (.inl x0 :: .inr a :: st) :=
  c_VI (Yc := Y_X10_count) (As := [.inl x0]) rfl hd (by rw [hY]; exact lm_L_103) mc_X10_count mi_X10_count ms_X10_count hst (fits_of hf hc hs) cf_10.2.1 (by decide) ho h rfl rfl w
theorem lm_L_106 : Cond.methodLink RL 106 yX11_count ∈ gT := gT_mem (i := 1156) (by decide +kernel) (by decide +kernel)
theorem k_L_106 {G : GT} {Y : MD} {Z : ZT} {c0 s0 n pc : Nat} {μ : Mem} {L : List (Nat × AV)} {st : List AV} {a : Int} {x0 : Int} {Q : Int → Nat → Mem → Prop} (hY : Y.1.cls = RL) (hd : decode Y.2.1 pc = .ok (.invokevirtual 106, 3)) (hst : st.length ≤ 8) (hf : fitsB Y Y_X11_count = true) (hc : c0 + 0 ≤ Y.2.2.2.2.2.2.1) (hs : s0 + 0 ≤ Y.2.2.2.2.2.2.2) (ho : gx G n μ → 0 ≤ a ∧ a < n ∧ SH a = (11, 28)) (h : CI G Y_X11_count [.inr a, .inl x0] n μ Q) (w : ∀ (x : Int) (n' : Nat) (ν : Mem), Q x n' ν → Wa G Y Z c0 s0 n' ν (pc + 3) L (.inl x :: st)) : Wa G Y Z c0 s0 n μ pc L (.inl x0 :: .inr a :: st) :=
  c_VI (Yc := Y_X11_count) (As := [.inl x0]) rfl hd (by rw [hY]; exact lm_L_106) mc_X11_count mi_X11_count ms_X11_count hst (fits_of hf hc hs) cf_11.2.1 (by decide) ho h rfl rfl w
theorem lm_X11_1 : Cond.methodLink RX11 1 Lib.objectInit ∈ gT := gT_mem (i := 820) (by decide +kernel) (by decide +kernel)
theorem k_X11_1 {G : GT} {Y : MD} {Z : ZT} {c0 s0 n pc : Nat} {μ : Mem} {L : List (Nat × AV)} {st : List AV} {a : Int} (hY : Y.1.cls = RX11) (hd : decode Y.2.1 pc = .ok (.invokespecial 1, 3)) (ha : 0 ≤ a) (hst : st.length ≤ 8) (hf : Nat.ble 1 Y.2.2.2.2.1 = true) (hlo : Nat.ble 20 Y.2.2.2.2.2.1 = true) (w : Wa G Y Z c0 s0 n μ (pc + 3) L st) : Wa G Y Z c0 s0 n μ pc L (.inr a :: st) :=
  a_objInit hd (by rw [hY]; exact lm_X11_1) oi_i oi_c ha hst (Nat.le_of_ble_eq_true hf) (Nat.le_of_ble_eq_true hlo) w
theorem lm_X11_56 : Cond.methodLink RX11 56 yX11_begins ∈ gT := gT_mem (i := 821) (by decide +kernel) (by decide +kernel)
theorem k_X11_56 {G : GT} {Y : MD} {Z : ZT} {c0 s0 n pc : Nat} {μ : Mem} {L : List (Nat × AV)} {st : List AV} {a : Int} {Q : Nat → Mem → Prop} (hY : Y.1.cls = RX11) (hd : decode Y.2.1 pc = .ok (.invokevirtual 56, 3)) (hst : st.length ≤ 8) (hf : fitsB Y Y_X11_begins = true) (hc : c0 + 0 ≤ Y.2.2.2.2.2.2.1) (hs : s0 + 0 ≤ Y.2.2.2.2.2.2.2) (ho : gx G n μ → 0 ≤ a ∧ a < n ∧ SH a = (11, 28)) (h : CV G Y_X11_begins [.inr a] n μ Q) (w : ∀ (n' : Nat) (ν : Mem), Q n' ν → Wa G Y Z c0 s0 n' ν (pc + 3) L st) : Wa G Y Z c0 s0 n μ pc L (.inr a :: st) :=
  c_VV (Yc := Y_X11_begins) (As := []) rfl hd (by rw [hY]; exact lm_X11_56) mc_X11_begins mi_X11_begins ms_X11_begins hst (fits_of hf hc hs) cf_11.2.1 (by decide) ho h rfl rfl w
theorem lm_X11_59 : Cond.methodLink RX11 59 yX11_becomes ∈ gT := gT_mem (i := 825) (by decide +kernel) (by decide +kernel)
theorem k_X11_59 {G : GT} {Y : MD} {Z : ZT} {c0 s0 n pc : Nat} {μ : Mem} {L : List (Nat × AV)} {st : List AV} {a : Int} {Q : Nat → Mem → Prop} (hY : Y.1.cls = RX11) (hd : decode Y.2.1 pc = .ok (.invokevirtual 59, 3)) (hst : st.length ≤ 8) (hf : fitsB Y Y_X11_becomes = true) (hc : c0 + 0 ≤ Y.2.2.2.2.2.2.1) (hs : s0 + 0 ≤ Y.2.2.2.2.2.2.2) (ho : gx G n μ → 0 ≤ a ∧ a < n ∧ SH a = (11, 28)) (h : CV G Y_X11_becomes [.inr a] n μ Q) (w : ∀ (n' : Nat) (ν : Mem), Q n' ν → Wa G Y Z c0 s0 n' ν (pc + 3) L st) : Wa G Y Z c0 s0 n μ pc L (.inr a :: st) :=
  c_VV (Yc := Y_X11_becomes) (As := []) rfl hd (by rw [hY]; exact lm_X11_59) mc_X11_becomes mi_X11_becomes ms_X11_becomes hst (fits_of hf hc hs) cf_11.2.1 (by decide) ho h rfl rfl w
theorem lm_X11_69 : Cond.methodLink RX11 69 yX11_in ∈ gT := gT_mem (i := 919) (by decide +kernel) (by decide +kernel)
theorem k_X11_69 {G : GT} {Y : MD} {Z : ZT} {c0 s0 n pc : Nat} {μ : Mem} {L : List (Nat × AV)} {st : List AV} {x0 x1 x2 : Int} {Q : Int → Nat → Mem → Prop} (hY : Y.1.cls = RX11) (hd : decode Y.2.1 pc = .ok (.invokestatic 69, 3)) (hst : st.length ≤ 8) (hf : fitsB Y Y_X11_in = true) (hc : c0 + 0 ≤ Y.2.2.2.2.2.2.1) (hs : s0 + 0 ≤ Y.2.2.2.2.2.2.2) (h : CI G Y_X11_in [.inl x0, .inl x1, .inl x2] n μ Q) (w : ∀ (x : Int) (n' : Nat) (ν : Mem), Q x n' ν → Wa G Y Z c0 s0 n' ν (pc + 3) L (.inl x :: st)) : Wa G Y Z c0 s0 n μ pc L (.inl x2 :: .inl x1 :: .inl x0 :: st) :=
  c_SI (Yc := Y_X11_in) (As := [.inl x0, .inl x1, .inl x2]) rfl hd (by rw [hY]; exact lm_X11_69) mc_X11_in mt_X11_in hst (fits_of hf hc hs) h rfl rfl w
theorem lm_X11_88 : Cond.methodLink RX11 88 yX11_isFigure ∈ gT := gT_mem (i := 934) (by decide +kernel) (by decide +kernel)
theorem k_X11_88 {G : GT} {Y : MD} {Z : ZT} {c0 s0 n pc : Nat} {μ : Mem} {L : List (Nat × AV)} {st : List AV} {a : Int} {x0 : Int} {Q : Int → Nat → Mem → Prop} (hY : Y.1.cls = RX11) (hd : decode Y.2.1 pc = .ok (.invokevirtual 88, 3)) (hst : st.length ≤ 8) (hf : fitsB Y Y_X11_isFigure = true) (hc : c0 + 0 ≤ Y.2.2.2.2.2.2.1) (hs : s0 + 0 ≤ Y.2.2.2.2.2.2.2) (ho : gx G n μ → 0 ≤ a ∧ a < n ∧ SH a = (11, 28)) (h : CI G Y_X11_isFigure [.inr a, .inl x0] n μ Q) (w : ∀ (x : Int) (n' : Nat) (ν : Mem), Q x n' ν → Wa G Y Z c0 s0 n' ν (pc + 3) L (.inl x :: st)) : Wa G Y Z c0 s0 n μ pc L (.inl x0 :: .inr a :: st) :=
  c_VI (Yc := Y_X11_isFigure) (As := [.inl x0]) rfl hd (by rw [hY]; exact lm_X11_88) mc_X11_isFigure mi_X11_isFigure ms_X11_isFigure hst (fits_of hf hc hs) cf_11.2.1 (by decide) ho h rfl rfl w
theorem lm_X11_92 : Cond.methodLink RX11 92 yX11_takes ∈ gT := gT_mem (i := 930) (by decide +kernel) (by decide +kernel)
theorem k_X11_92 {G : GT} {Y : MD} {Z : ZT} {c0 s0 n pc : Nat} {μ : Mem} {L : List (Nat × AV)} {st : List AV} {a : Int} {Q : Nat → Mem → Prop} (hY : Y.1.cls = RX11) (hd : decode Y.2.1 pc = .ok (.invokevirtual 92, 3)) (hst : st.length ≤ 8) (hf : fitsB Y Y_X11_takes = true) (hc : c0 + 0 ≤ Y.2.2.2.2.2.2.1) (hs : s0 + 0 ≤ Y.2.2.2.2.2.2.2) (ho : gx G n μ → 0 ≤ a ∧ a < n ∧ SH a = (11, 28)) (h : CV G Y_X11_takes [.inr a] n μ Q) (w : ∀ (n' : Nat) (ν : Mem), Q n' ν → Wa G Y Z c0 s0 n' ν (pc + 3) L st) : Wa G Y Z c0 s0 n μ pc L (.inr a :: st) :=
  c_VV (Yc := Y_X11_takes) (As := []) rfl hd (by rw [hY]; exact lm_X11_92) mc_X11_takes mi_X11_takes ms_X11_takes hst (fits_of hf hc hs) cf_11.2.1 (by decide) ho h rfl rfl w
theorem lm_X11_101 : Cond.methodLink RX11 101 yX11_reads ∈ gT := gT_mem (i := 946) (by decide +kernel) (by decide +kernel)
theorem k_X11_101 {G : GT} {Y : MD} {Z : ZT} {c0 s0 n pc : Nat} {μ : Mem} {L : List (Nat × AV)} {st : List AV} {a : Int} {x0 x1 x2 : Int} {Q : Int → Nat → Mem → Prop} (hY : Y.1.cls = RX11) (hd : decode Y.2.1 pc = .ok (.invokevirtual 101, 3)) (hst : st.length ≤ 8) (hf : fitsB Y Y_X11_reads = true) (hc : c0 + 0 ≤ Y.2.2.2.2.2.2.1) (hs : s0 + 0 ≤ Y.2.2.2.2.2.2.2) (ho : gx G n μ → 0 ≤ a ∧ a < n ∧ SH a = (11, 28)) (h : CI G Y_X11_reads [.inr a, .inl x0, .inl x1, .inl x2] n μ Q) (w : ∀ (x : Int) (n' : Nat) (ν : Mem), Q x n' ν → Wa G Y Z c0 s0 n' ν (pc + 3) L (.inl x :: st)) : Wa G Y Z c0 s0 n μ pc L (.inl x2 :: .inl x1 :: .inl x0 :: .inr a :: st) :=
  c_VI (Yc := Y_X11_reads) (As := [.inl x0, .inl x1, .inl x2]) rfl hd (by rw [hY]; exact lm_X11_101) mc_X11_reads mi_X11_reads ms_X11_reads hst (fits_of hf hc hs) cf_11.2.1 (by decide) ho h rfl rfl w
theorem lm_X11_110 : Cond.methodLink RX11 110 yX11_readsNodes ∈ gT := gT_mem (i := 938) (by decide +kernel) (by decide +kernel)
theorem k_X11_110 {G : GT} {Y : MD} {Z : ZT} {c0 s0 n pc : Nat} {μ : Mem} {L : List (Nat × AV)} {st : List AV} {a : Int} {x0 : Int} {Q : Int → Nat → Mem → Prop} (hY : Y.1.cls = RX11) (hd : decode Y.2.1 pc = .ok (.invokevirtual 110, 3)) (hst : st.length ≤ 8) (hf : fitsB Y Y_X11_readsNodes = true) (hc : c0 + 0 ≤ Y.2.2.2.2.2.2.1) (hs : s0 + 0 ≤ Y.2.2.2.2.2.2.2) (ho : gx G n μ → 0 ≤ a ∧ a < n ∧ SH a = (11, 28)) (h : CI G Y_X11_readsNodes [.inr a, .inl x0] n μ Q) (w : ∀ (x : Int) (n' : Nat) (ν : Mem), Q x n' ν → Wa G Y Z c0 s0 n' ν (pc + 3) L (.inl x :: st)) : Wa G Y Z c0 s0 n μ pc L (.inl x0 :: .inr a :: st) :=
  c_VI (Yc := Y_X11_readsNodes) (As := [.inl x0]) rfl hd (by rw [hY]; exact lm_X11_110) mc_X11_readsNodes mi_X11_readsNodes ms_X11_readsNodes hst (fits_of hf hc hs) cf_11.2.1 (by decide) ho h rfl rfl w
theorem lm_X11_113 : Cond.methodLink RX11 113 yX11_readsContact ∈ gT := gT_mem (i := 942) (by decide +kernel) (by decide +kernel)
theorem k_X11_113 {G : GT} {Y : MD} {Z : ZT} {c0 s0 n pc : Nat} {μ : Mem} {L : List (Nat × AV)} {st : List AV} {a : Int} {Q : Int → Nat → Mem → Prop} (hY : Y.1.cls = RX11) (hd : decode Y.2.1 pc = .ok (.invokevirtual 113, 3)) (hst : st.length ≤ 8) (hf : fitsB Y Y_X11_readsContact = true) (hc : c0 + 0 ≤ Y.2.2.2.2.2.2.1) (hs : s0 + 0 ≤ Y.2.2.2.2.2.2.2) (ho : gx G n μ → 0 ≤ a ∧ a < n ∧ SH a = (11, 28)) (h : CI G Y_X11_readsContact [.inr a] n μ Q) (w : ∀ (x : Int) (n' : Nat) (ν : Mem), Q x n' ν → Wa G Y Z c0 s0 n' ν (pc + 3) L (.inl x :: st)) : Wa G Y Z c0 s0 n μ pc L (.inr a :: st) :=
  c_VI (Yc := Y_X11_readsContact) (As := []) rfl hd (by rw [hY]; exact lm_X11_113) mc_X11_readsContact mi_X11_readsContact ms_X11_readsContact hst (fits_of hf hc hs) cf_11.2.1 (by decide) ho h rfl rfl w
theorem lm_X11_117 : Cond.methodLink RX11 117 yX11_isContact ∈ gT := gT_mem (i := 954) (by decide +kernel) (by decide +kernel)
theorem k_X11_117 {G : GT} {Y : MD} {Z : ZT} {c0 s0 n pc : Nat} {μ : Mem} {L : List (Nat × AV)} {st : List AV} {a : Int} {x0 : Int} {Q : Int → Nat → Mem → Prop} (hY : Y.1.cls = RX11) (hd : decode Y.2.1 pc = .ok (.invokevirtual 117, 3)) (hst : st.length ≤ 8) (hf : fitsB Y Y_X11_isContact = true) (hc : c0 + 0 ≤ Y.2.2.2.2.2.2.1) (hs : s0 + 0 ≤ Y.2.2.2.2.2.2.2) (ho : gx G n μ → 0 ≤ a ∧ a < n ∧ SH a = (11, 28)) (h : CI G Y_X11_isContact [.inr a, .inl x0] n μ Q) (w : ∀ (x : Int) (n' : Nat) (ν : Mem), Q x n' ν → Wa G Y Z c0 s0 n' ν (pc + 3) L (.inl x :: st)) : Wa G Y Z c0 s0 n μ pc L (.inl x0 :: .inr a :: st) :=
  c_VI (Yc := Y_X11_isContact) (As := [.inl x0]) rfl hd (by rw [hY]; exact lm_X11_117) mc_X11_isContact mi_X11_isContact ms_X11_isContact hst (fits_of hf hc hs) cf_11.2.1 (by decide) ho h rfl rfl w
theorem lm_X11_120 : Cond.methodLink RX11 120 yX11_isMissed ∈ gT := gT_mem (i := 958) (by decide +kernel) (by decide +kernel)
theorem k_X11_120 {G : GT} {Y : MD} {Z : ZT} {c0 s0 n pc : Nat} {μ : Mem} {L : List (Nat × AV)} {st : List AV} {a : Int} {x0 : Int} {Q : Int → Nat → Mem → Prop} (hY : Y.1.cls = RX11) (hd : decode Y.2.1 pc = .ok (.invokevirtual 120, 3)) (hst : st.length ≤ 8) (hf : fitsB Y Y_X11_isMissed = true) (hc : c0 + 0 ≤ Y.2.2.2.2.2.2.1) (hs : s0 + 0 ≤ Y.2.2.2.2.2.2.2) (ho : gx G n μ → 0 ≤ a ∧ a < n ∧ SH a = (11, 28)) (h : CI G Y_X11_isMissed [.inr a, .inl x0] n μ Q) (w : ∀ (x : Int) (n' : Nat) (ν : Mem), Q x n' ν → Wa G Y Z c0 s0 n' ν (pc + 3) L (.inl x :: st)) : Wa G Y Z c0 s0 n μ pc L (.inl x0 :: .inr a :: st) :=
  c_VI (Yc := Y_X11_isMissed) (As := [.inl x0]) rfl hd (by rw [hY]; exact lm_X11_120) mc_X11_isMissed mi_X11_isMissed ms_X11_isMissed hst (fits_of hf hc hs) cf_11.2.1 (by decide) ho h rfl rfl w
theorem lm_X11_123 : Cond.methodLink RX11 123 yX11_at ∈ gT := gT_mem (i := 978) (by decide +kernel) (by decide +kernel)
theorem k_X11_123 {G : GT} {Y : MD} {Z : ZT} {c0 s0 n pc : Nat} {μ : Mem} {L : List (Nat × AV)} {st : List AV} {x0 : Int} {Q : Int → Nat → Mem → Prop} (hY : Y.1.cls = RX11) (hd : decode Y.2.1 pc = .ok (.invokestatic 123, 3)) (hst : st.length ≤ 8) (hf : fitsB Y Y_X11_at = true) (hc : c0 + 0 ≤ Y.2.2.2.2.2.2.1) (hs : s0 + 0 ≤ Y.2.2.2.2.2.2.2) (h : CI G Y_X11_at [.inl x0] n μ Q) (w : ∀ (x : Int) (n' : Nat) (ν : Mem), Q x n' ν → Wa G Y Z c0 s0 n' ν (pc + 3) L (.inl x :: st)) : Wa G Y Z c0 s0 n μ pc L (.inl x0 :: st) :=
  c_SI (Yc := Y_X11_at) (As := [.inl x0]) rfl hd (by rw [hY]; exact lm_X11_123) mc_X11_at mt_X11_at hst (fits_of hf hc hs) h rfl rfl w
theorem lm_X11_127 : Cond.methodLink RX11 127 yX11_its ∈ gT := gT_mem (i := 988) (by decide +kernel) (by decide +kernel)
theorem k_X11_127 {G : GT} {Y : MD} {Z : ZT} {c0 s0 n pc : Nat} {μ : Mem} {L : List (Nat × AV)} {st : List AV} {a : Int} {x0 x1 : Int} {Q : Int → Nat → Mem → Prop} (hY : Y.1.cls = RX11) (hd : decode Y.2.1 pc = .ok (.invokevirtual 127, 3)) (hst : st.length ≤ 8) (hf : fitsB Y Y_X11_its = true) (hc : c0 + 0 ≤ Y.2.2.2.2.2.2.1) (hs : s0 + 0 ≤ Y.2.2.2.2.2.2.2) (ho : gx G n μ → 0 ≤ a ∧ a < n ∧ SH a = (11, 28)) (h : CI G Y_X11_its [.inr a, .inl x0, .inl x1] n μ Q) (w : ∀ (x : Int) (n' : Nat) (ν : Mem), Q x n' ν → Wa G Y Z c0 s0 n' ν (pc + 3) L (.inl x :: st)) : Wa G Y Z c0 s0 n μ pc L (.inl x1 :: .inl x0 :: .inr a :: st) :=
  c_VI (Yc := Y_X11_its) (As := [.inl x0, .inl x1]) rfl hd (by rw [hY]; exact lm_X11_127) mc_X11_its mi_X11_its ms_X11_its hst (fits_of hf hc hs) cf_11.2.1 (by decide) ho h rfl rfl w
theorem lm_X11_131 : Cond.methodLink RX11 131 yX11_ticks ∈ gT := gT_mem (i := 1016) (by decide +kernel) (by decide +kernel)
theorem k_X11_131 {G : GT} {Y : MD} {Z : ZT} {c0 s0 n pc : Nat} {μ : Mem} {L : List (Nat × AV)} {st : List AV} {a : Int} {x0 x1 : Int} {Q : Int → Nat → Mem → Prop} (hY : Y.1.cls = RX11) (hd : decode Y.2.1 pc = .ok (.invokevirtual 131, 3)) (hst : st.length ≤ 8) (hf : fitsB Y Y_X11_ticks = true) (hc : c0 + 0 ≤ Y.2.2.2.2.2.2.1) (hs : s0 + 0 ≤ Y.2.2.2.2.2.2.2) (ho : gx G n μ → 0 ≤ a ∧ a < n ∧ SH a = (11, 28)) (h : CI G Y_X11_ticks [.inr a, .inl x0, .inl x1] n μ Q) (w : ∀ (x : Int) (n' : Nat) (ν : Mem), Q x n' ν → Wa G Y Z c0 s0 n' ν (pc + 3) L (.inl x :: st)) : Wa G Y Z c0 s0 n μ pc L (.inl x1 :: .inl x0 :: .inr a :: st) :=
  c_VI (Yc := Y_X11_ticks) (As := [.inl x0, .inl x1]) rfl hd (by rw [hY]; exact lm_X11_131) mc_X11_ticks mi_X11_ticks ms_X11_ticks hst (fits_of hf hc hs) cf_11.2.1 (by decide) ho h rfl rfl w
theorem lm_X11_134 : Cond.methodLink RX11 134 yX11_isOn ∈ gT := gT_mem (i := 1004) (by decide +kernel) (by decide +kernel)
theorem k_X11_134 {G : GT} {Y : MD} {Z : ZT} {c0 s0 n pc : Nat} {μ : Mem} {L : List (Nat × AV)} {st : List AV} {a : Int} {x0 : Int} {Q : Int → Nat → Mem → Prop} (hY : Y.1.cls = RX11) (hd : decode Y.2.1 pc = .ok (.invokevirtual 134, 3)) (hst : st.length ≤ 8) (hf : fitsB Y Y_X11_isOn = true) (hc : c0 + 0 ≤ Y.2.2.2.2.2.2.1) (hs : s0 + 0 ≤ Y.2.2.2.2.2.2.2) (ho : gx G n μ → 0 ≤ a ∧ a < n ∧ SH a = (11, 28)) (h : CI G Y_X11_isOn [.inr a, .inl x0] n μ Q) (w : ∀ (x : Int) (n' : Nat) (ν : Mem), Q x n' ν → Wa G Y Z c0 s0 n' ν (pc + 3) L (.inl x :: st)) : Wa G Y Z c0 s0 n μ pc L (.inl x0 :: .inr a :: st) :=
  c_VI (Yc := Y_X11_isOn) (As := [.inl x0]) rfl hd (by rw [hY]; exact lm_X11_134) mc_X11_isOn mi_X11_isOn ms_X11_isOn hst (fits_of hf hc hs) cf_11.2.1 (by decide) ho h rfl rfl w
theorem lm_X11_137 : Cond.methodLink RX11 137 yX11_leads ∈ gT := gT_mem (i := 1008) (by decide +kernel) (by decide +kernel)
theorem k_X11_137 {G : GT} {Y : MD} {Z : ZT} {c0 s0 n pc : Nat} {μ : Mem} {L : List (Nat × AV)} {st : List AV} {a : Int} {x0 : Int} {Q : Int → Nat → Mem → Prop} (hY : Y.1.cls = RX11) (hd : decode Y.2.1 pc = .ok (.invokevirtual 137, 3)) (hst : st.length ≤ 8) (hf : fitsB Y Y_X11_leads = true) (hc : c0 + 0 ≤ Y.2.2.2.2.2.2.1) (hs : s0 + 0 ≤ Y.2.2.2.2.2.2.2) (ho : gx G n μ → 0 ≤ a ∧ a < n ∧ SH a = (11, 28)) (h : CI G Y_X11_leads [.inr a, .inl x0] n μ Q) (w : ∀ (x : Int) (n' : Nat) (ν : Mem), Q x n' ν → Wa G Y Z c0 s0 n' ν (pc + 3) L (.inl x :: st)) : Wa G Y Z c0 s0 n μ pc L (.inl x0 :: .inr a :: st) :=
  c_VI (Yc := Y_X11_leads) (As := [.inl x0]) rfl hd (by rw [hY]; exact lm_X11_137) mc_X11_leads mi_X11_leads ms_X11_leads hst (fits_of hf hc hs) cf_11.2.1 (by decide) ho h rfl rfl w
theorem lm_X11_140 : Cond.methodLink RX11 140 yX11_stateOf ∈ gT := gT_mem (i := 1000) (by decide +kernel) (by decide +kernel)
theorem k_X11_140 {G : GT} {Y : MD} {Z : ZT} {c0 s0 n pc : Nat} {μ : Mem} {L : List (Nat × AV)} {st : List AV} {a : Int} {x0 : Int} {Q : Int → Nat → Mem → Prop} (hY : Y.1.cls = RX11) (hd : decode Y.2.1 pc = .ok (.invokevirtual 140, 3)) (hst : st.length ≤ 8) (hf : fitsB Y Y_X11_stateOf = true) (hc : c0 + 0 ≤ Y.2.2.2.2.2.2.1) (hs : s0 + 0 ≤ Y.2.2.2.2.2.2.2) (ho : gx G n μ → 0 ≤ a ∧ a < n ∧ SH a = (11, 28)) (h : CI G Y_X11_stateOf [.inr a, .inl x0] n μ Q) (w : ∀ (x : Int) (n' : Nat) (ν : Mem), Q x n' ν → Wa G Y Z c0 s0 n' ν (pc + 3) L (.inl x :: st)) : Wa G Y Z c0 s0 n μ pc L (.inl x0 :: .inr a :: st) :=
  c_VI (Yc := Y_X11_stateOf) (As := [.inl x0]) rfl hd (by rw [hY]; exact lm_X11_140) mc_X11_stateOf mi_X11_stateOf ms_X11_stateOf hst (fits_of hf hc hs) cf_11.2.1 (by decide) ho h rfl rfl w
theorem lm_X11_143 : Cond.methodLink RX11 143 yX11_marks ∈ gT := gT_mem (i := 1024) (by decide +kernel) (by decide +kernel)
theorem k_X11_143 {G : GT} {Y : MD} {Z : ZT} {c0 s0 n pc : Nat} {μ : Mem} {L : List (Nat × AV)} {st : List AV} {a : Int} {x0 x1 x2 : Int} {Q : Nat → Mem → Prop} (hY : Y.1.cls = RX11) (hd : decode Y.2.1 pc = .ok (.invokevirtual 143, 3)) (hst : st.length ≤ 8) (hf : fitsB Y Y_X11_marks = true) (hc : c0 + 0 ≤ Y.2.2.2.2.2.2.1) (hs : s0 + 0 ≤ Y.2.2.2.2.2.2.2) (ho : gx G n μ → 0 ≤ a ∧ a < n ∧ SH a = (11, 28)) (h : CV G Y_X11_marks [.inr a, .inl x0, .inl x1, .inl x2] n μ Q) (w : ∀ (n' : Nat) (ν : Mem), Q n' ν → Wa G Y Z c0 s0 n' ν (pc + 3) L st) : Wa G Y Z c0 s0 n μ pc L (.inl x2 :: .inl x1 :: .inl x0 :: .inr a :: st) :=
  c_VV (Yc := Y_X11_marks) (As := [.inl x0, .inl x1, .inl x2]) rfl hd (by rw [hY]; exact lm_X11_143) mc_X11_marks mi_X11_marks ms_X11_marks hst (fits_of hf hc hs) cf_11.2.1 (by decide) ho h rfl rfl w
theorem lm_X11_147 : Cond.methodLink RX11 147 yX11_beginsAt ∈ gT := gT_mem (i := 1040) (by decide +kernel) (by decide +kernel)
theorem k_X11_147 {G : GT} {Y : MD} {Z : ZT} {c0 s0 n pc : Nat} {μ : Mem} {L : List (Nat × AV)} {st : List AV} {a : Int} {x0 x1 x2 : Int} {Q : Int → Nat → Mem → Prop} (hY : Y.1.cls = RX11) (hd : decode Y.2.1 pc = .ok (.invokevirtual 147, 3)) (hst : st.length ≤ 8) (hf : fitsB Y Y_X11_beginsAt = true) (hc : c0 + 0 ≤ Y.2.2.2.2.2.2.1) (hs : s0 + 0 ≤ Y.2.2.2.2.2.2.2) (ho : gx G n μ → 0 ≤ a ∧ a < n ∧ SH a = (11, 28)) (h : CI G Y_X11_beginsAt [.inr a, .inl x0, .inl x1, .inl x2] n μ Q) (w : ∀ (x : Int) (n' : Nat) (ν : Mem), Q x n' ν → Wa G Y Z c0 s0 n' ν (pc + 3) L (.inl x :: st)) : Wa G Y Z c0 s0 n μ pc L (.inl x2 :: .inl x1 :: .inl x0 :: .inr a :: st) :=
  c_VI (Yc := Y_X11_beginsAt) (As := [.inl x0, .inl x1, .inl x2]) rfl hd (by rw [hY]; exact lm_X11_147) mc_X11_beginsAt mi_X11_beginsAt ms_X11_beginsAt hst (fits_of hf hc hs) cf_11.2.1 (by decide) ho h rfl rfl w
theorem lm_X11_151 : Cond.methodLink RX11 151 yX11_endsAt ∈ gT := gT_mem (i := 1036) (by decide +kernel) (by decide +kernel)
theorem k_X11_151 {G : GT} {Y : MD} {Z : ZT} {c0 s0 n pc : Nat} {μ : Mem} {L : List (Nat × AV)} {st : List AV} {a : Int} {x0 x1 x2 : Int} {Q : Int → Nat → Mem → Prop} (hY : Y.1.cls = RX11) (hd : decode Y.2.1 pc = .ok (.invokevirtual 151, 3)) (hst : st.length ≤ 8) (hf : fitsB Y Y_X11_endsAt = true) (hc : c0 + 0 ≤ Y.2.2.2.2.2.2.1) (hs : s0 + 0 ≤ Y.2.2.2.2.2.2.2) (ho : gx G n μ → 0 ≤ a ∧ a < n ∧ SH a = (11, 28)) (h : CI G Y_X11_endsAt [.inr a, .inl x0, .inl x1, .inl x2] n μ Q) (w : ∀ (x : Int) (n' : Nat) (ν : Mem), Q x n' ν → Wa G Y Z c0 s0 n' ν (pc + 3) L (.inl x :: st)) : Wa G Y Z c0 s0 n μ pc L (.inl x2 :: .inl x1 :: .inl x0 :: .inr a :: st) :=
  c_VI (Yc := Y_X11_endsAt) (As := [.inl x0, .inl x1, .inl x2]) rfl hd (by rw [hY]; exact lm_X11_151) mc_X11_endsAt mi_X11_endsAt ms_X11_endsAt hst (fits_of hf hc hs) cf_11.2.1 (by decide) ho h rfl rfl w
theorem lm_X11_154 : Cond.methodLink RX11 154 yX11_laysFirst ∈ gT := gT_mem (i := 1032) (by decide +kernel) (by decide +kernel)
theorem k_X11_154 {G : GT} {Y : MD} {Z : ZT} {c0 s0 n pc : Nat} {μ : Mem} {L : List (Nat × AV)} {st : List AV} {a : Int} {x0 x1 x2 x3 x4 : Int} {Q : Nat → Mem → Prop} (hY : Y.1.cls = RX11) (hd : decode Y.2.1 pc = .ok (.invokevirtual 154, 3)) (hst : st.length ≤ 8) (hf : fitsB Y Y_X11_laysFirst = true) (hc : c0 + 0 ≤ Y.2.2.2.2.2.2.1) (hs : s0 + 0 ≤ Y.2.2.2.2.2.2.2) (ho : gx G n μ → 0 ≤ a ∧ a < n ∧ SH a = (11, 28)) (h : CV G Y_X11_laysFirst [.inr a, .inl x0, .inl x1, .inl x2, .inl x3, .inl x4] n μ Q) (w : ∀ (n' : Nat) (ν : Mem), Q n' ν → Wa G Y Z c0 s0 n' ν (pc + 3) L st) : Wa G Y Z c0 s0 n μ pc L (.inl x4 :: .inl x3 :: .inl x2 :: .inl x1 :: .inl x0 :: .inr a :: st) :=
  c_VV (Yc := Y_X11_laysFirst) (As := [.inl x0, .inl x1, .inl x2, .inl x3, .inl x4]) rfl hd (by rw [hY]; exact lm_X11_154) mc_X11_laysFirst mi_X11_laysFirst ms_X11_laysFirst hst (fits_of hf hc hs) cf_11.2.1 (by decide) ho h rfl rfl w
theorem lm_X11_164 : Cond.methodLink RX11 164 yX11_leadsThere ∈ gT := gT_mem (i := 1048) (by decide +kernel) (by decide +kernel)
theorem k_X11_164 {G : GT} {Y : MD} {Z : ZT} {c0 s0 n pc : Nat} {μ : Mem} {L : List (Nat × AV)} {st : List AV} {a : Int} {x0 x1 x2 x3 x4 x5 : Int} {Q : Int → Nat → Mem → Prop} (hY : Y.1.cls = RX11) (hd : decode Y.2.1 pc = .ok (.invokevirtual 164, 3)) (hst : st.length ≤ 8) (hf : fitsB Y Y_X11_leadsThere = true) (hc : c0 + 0 ≤ Y.2.2.2.2.2.2.1) (hs : s0 + 0 ≤ Y.2.2.2.2.2.2.2) (ho : gx G n μ → 0 ≤ a ∧ a < n ∧ SH a = (11, 28)) (h : CI G Y_X11_leadsThere [.inr a, .inl x0, .inl x1, .inl x2, .inl x3, .inl x4, .inl x5] n μ Q) (w : ∀ (x : Int) (n' : Nat) (ν : Mem), Q x n' ν → Wa G Y Z c0 s0 n' ν (pc + 3) L (.inl x :: st)) : Wa G Y Z c0 s0 n μ pc L (.inl x5 :: .inl x4 :: .inl x3 :: .inl x2 :: .inl x1 :: .inl x0 :: .inr a :: st) :=
  c_VI (Yc := Y_X11_leadsThere) (As := [.inl x0, .inl x1, .inl x2, .inl x3, .inl x4, .inl x5]) rfl hd (by rw [hY]; exact lm_X11_164) mc_X11_leadsThere mi_X11_leadsThere ms_X11_leadsThere hst (fits_of hf hc hs) cf_11.2.1 (by decide) ho h rfl rfl w
theorem lm_X11_168 : Cond.methodLink RX11 168 yX11_meets ∈ gT := gT_mem (i := 1056) (by decide +kernel) (by decide +kernel)
theorem k_X11_168 {G : GT} {Y : MD} {Z : ZT} {c0 s0 n pc : Nat} {μ : Mem} {L : List (Nat × AV)} {st : List AV} {a : Int} {x0 x1 x2 x3 : Int} {Q : Int → Nat → Mem → Prop} (hY : Y.1.cls = RX11) (hd : decode Y.2.1 pc = .ok (.invokevirtual 168, 3)) (hst : st.length ≤ 8) (hf : fitsB Y Y_X11_meets = true) (hc : c0 + 0 ≤ Y.2.2.2.2.2.2.1) (hs : s0 + 0 ≤ Y.2.2.2.2.2.2.2) (ho : gx G n μ → 0 ≤ a ∧ a < n ∧ SH a = (11, 28)) (h : CI G Y_X11_meets [.inr a, .inl x0, .inl x1, .inl x2, .inl x3] n μ Q) (w : ∀ (x : Int) (n' : Nat) (ν : Mem), Q x n' ν → Wa G Y Z c0 s0 n' ν (pc + 3) L (.inl x :: st)) : Wa G Y Z c0 s0 n μ pc L (.inl x3 :: .inl x2 :: .inl x1 :: .inl x0 :: .inr a :: st) :=
  c_VI (Yc := Y_X11_meets) (As := [.inl x0, .inl x1, .inl x2, .inl x3]) rfl hd (by rw [hY]; exact lm_X11_168) mc_X11_meets mi_X11_meets ms_X11_meets hst (fits_of hf hc hs) cf_11.2.1 (by decide) ho h rfl rfl w
theorem lm_X11_172 : Cond.methodLink RX11 172 yX11_has ∈ gT := gT_mem (i := 985) (by decide +kernel) (by decide +kernel)
theorem k_X11_172 {G : GT} {Y : MD} {Z : ZT} {c0 s0 n pc : Nat} {μ : Mem} {L : List (Nat × AV)} {st : List AV} {x0 x1 : Int} {Q : Int → Nat → Mem → Prop} (hY : Y.1.cls = RX11) (hd : decode Y.2.1 pc = .ok (.invokestatic 172, 3)) (hst : st.length ≤ 8) (hf : fitsB Y Y_X11_has = true) (hc : c0 + 0 ≤ Y.2.2.2.2.2.2.1) (hs : s0 + 0 ≤ Y.2.2.2.2.2.2.2) (h : CI G Y_X11_has [.inl x0, .inl x1] n μ Q) (w : ∀ (x : Int) (n' : Nat) (ν : Mem), Q x n' ν → Wa G Y Z c0 s0 n' ν (pc + 3) L (.inl x :: st)) : Wa G Y Z c0 s0 n μ pc L (.inl x1 :: .inl x0 :: st) :=
  c_SI (Yc := Y_X11_has) (As := [.inl x0, .inl x1]) rfl hd (by rw [hY]; exact lm_X11_172) mc_X11_has mt_X11_has hst (fits_of hf hc hs) h rfl rfl w
theorem lm_X11_176 : Cond.methodLink RX11 176 yX11_givesUp ∈ gT := gT_mem (i := 996) (by decide +kernel) (by decide +kernel)
theorem k_X11_176 {G : GT} {Y : MD} {Z : ZT} {c0 s0 n pc : Nat} {μ : Mem} {L : List (Nat × AV)} {st : List AV} {a : Int} {x0 : Int} {Q : Nat → Mem → Prop} (hY : Y.1.cls = RX11) (hd : decode Y.2.1 pc = .ok (.invokevirtual 176, 3)) (hst : st.length ≤ 8) (hf : fitsB Y Y_X11_givesUp = true) (hc : c0 + 0 ≤ Y.2.2.2.2.2.2.1) (hs : s0 + 0 ≤ Y.2.2.2.2.2.2.2) (ho : gx G n μ → 0 ≤ a ∧ a < n ∧ SH a = (11, 28)) (h : CV G Y_X11_givesUp [.inr a, .inl x0] n μ Q) (w : ∀ (n' : Nat) (ν : Mem), Q n' ν → Wa G Y Z c0 s0 n' ν (pc + 3) L st) : Wa G Y Z c0 s0 n μ pc L (.inl x0 :: .inr a :: st) :=
  c_VV (Yc := Y_X11_givesUp) (As := [.inl x0]) rfl hd (by rw [hY]; exact lm_X11_176) mc_X11_givesUp mi_X11_givesUp ms_X11_givesUp hst (fits_of hf hc hs) cf_11.2.1 (by decide) ho h rfl rfl w
theorem lm_X11_180 : Cond.methodLink RX11 180 yX11_arrival ∈ gT := gT_mem (i := 1012) (by decide +kernel) (by decide +kernel)
theorem k_X11_180 {G : GT} {Y : MD} {Z : ZT} {c0 s0 n pc : Nat} {μ : Mem} {L : List (Nat × AV)} {st : List AV} {a : Int} {x0 x1 x2 : Int} {Q : Int → Nat → Mem → Prop} (hY : Y.1.cls = RX11) (hd : decode Y.2.1 pc = .ok (.invokevirtual 180, 3)) (hst : st.length ≤ 8) (hf : fitsB Y Y_X11_arrival = true) (hc : c0 + 0 ≤ Y.2.2.2.2.2.2.1) (hs : s0 + 0 ≤ Y.2.2.2.2.2.2.2) (ho : gx G n μ → 0 ≤ a ∧ a < n ∧ SH a = (11, 28)) (h : CI G Y_X11_arrival [.inr a, .inl x0, .inl x1, .inl x2] n μ Q) (w : ∀ (x : Int) (n' : Nat) (ν : Mem), Q x n' ν → Wa G Y Z c0 s0 n' ν (pc + 3) L (.inl x :: st)) : Wa G Y Z c0 s0 n μ pc L (.inl x2 :: .inl x1 :: .inl x0 :: .inr a :: st) :=
  c_VI (Yc := Y_X11_arrival) (As := [.inl x0, .inl x1, .inl x2]) rfl hd (by rw [hY]; exact lm_X11_180) mc_X11_arrival mi_X11_arrival ms_X11_arrival hst (fits_of hf hc hs) cf_11.2.1 (by decide) ho h rfl rfl w
theorem lm_X11_183 : Cond.methodLink RX11 183 yX11_laysTaken ∈ gT := gT_mem (i := 1020) (by decide +kernel) (by decide +kernel)
theorem k_X11_183 {G : GT} {Y : MD} {Z : ZT} {c0 s0 n pc : Nat} {μ : Mem} {L : List (Nat × AV)} {st : List AV} {a : Int} {x0 x1 : Int} {Q : Nat → Mem → Prop} (hY : Y.1.cls = RX11) (hd : decode Y.2.1 pc = .ok (.invokevirtual 183, 3)) (hst : st.length ≤ 8) (hf : fitsB Y Y_X11_laysTaken = true) (hc : c0 + 0 ≤ Y.2.2.2.2.2.2.1) (hs : s0 + 0 ≤ Y.2.2.2.2.2.2.2) (ho : gx G n μ → 0 ≤ a ∧ a < n ∧ SH a = (11, 28)) (h : CV G Y_X11_laysTaken [.inr a, .inl x0, .inl x1] n μ Q) (w : ∀ (n' : Nat) (ν : Mem), Q n' ν → Wa G Y Z c0 s0 n' ν (pc + 3) L st) : Wa G Y Z c0 s0 n μ pc L (.inl x1 :: .inl x0 :: .inr a :: st) :=
  c_VV (Yc := Y_X11_laysTaken) (As := [.inl x0, .inl x1]) rfl hd (by rw [hY]; exact lm_X11_183) mc_X11_laysTaken mi_X11_laysTaken ms_X11_laysTaken hst (fits_of hf hc hs) cf_11.2.1 (by decide) ho h rfl rfl w
theorem lm_X11_187 : Cond.methodLink RX11 187 yX11_findsEnd ∈ gT := gT_mem (i := 1028) (by decide +kernel) (by decide +kernel)
theorem k_X11_187 {G : GT} {Y : MD} {Z : ZT} {c0 s0 n pc : Nat} {μ : Mem} {L : List (Nat × AV)} {st : List AV} {a : Int} {x0 x1 x2 x3 x4 : Int} {Q : Int → Nat → Mem → Prop} (hY : Y.1.cls = RX11) (hd : decode Y.2.1 pc = .ok (.invokevirtual 187, 3)) (hst : st.length ≤ 8) (hf : fitsB Y Y_X11_findsEnd = true) (hc : c0 + 0 ≤ Y.2.2.2.2.2.2.1) (hs : s0 + 0 ≤ Y.2.2.2.2.2.2.2) (ho : gx G n μ → 0 ≤ a ∧ a < n ∧ SH a = (11, 28)) (h : CI G Y_X11_findsEnd [.inr a, .inl x0, .inl x1, .inl x2, .inl x3, .inl x4] n μ Q) (w : ∀ (x : Int) (n' : Nat) (ν : Mem), Q x n' ν → Wa G Y Z c0 s0 n' ν (pc + 3) L (.inl x :: st)) : Wa G Y Z c0 s0 n μ pc L (.inl x4 :: .inl x3 :: .inl x2 :: .inl x1 :: .inl x0 :: .inr a :: st) :=
  c_VI (Yc := Y_X11_findsEnd) (As := [.inl x0, .inl x1, .inl x2, .inl x3, .inl x4]) rfl hd (by rw [hY]; exact lm_X11_187) mc_X11_findsEnd mi_X11_findsEnd ms_X11_findsEnd hst (fits_of hf hc hs) cf_11.2.1 (by decide) ho h rfl rfl w
theorem lm_X11_191 : Cond.methodLink RX11 191 yX11_findsWay ∈ gT := gT_mem (i := 1044) (by decide +kernel) (by decide +kernel)
theorem k_X11_191 {G : GT} {Y : MD} {Z : ZT} {c0 s0 n pc : Nat} {μ : Mem} {L : List (Nat × AV)} {st : List AV} {a : Int} {x0 x1 x2 x3 : Int} {Q : Nat → Mem → Prop} (hY : Y.1.cls = RX11) (hd : decode Y.2.1 pc = .ok (.invokevirtual 191, 3)) (hst : st.length ≤ 8) (hf : fitsB Y Y_X11_findsWay = true) (hc : c0 + 0 ≤ Y.2.2.2.2.2.2.1) (hs : s0 + 0 ≤ Y.2.2.2.2.2.2.2) (ho : gx G n μ → 0 ≤ a ∧ a < n ∧ SH a = (11, 28)) (h : CV G Y_X11_findsWay [.inr a, .inl x0, .inl x1, .inl x2, .inl x3] n μ Q) (w : ∀ (n' : Nat) (ν : Mem), Q n' ν → Wa G Y Z c0 s0 n' ν (pc + 3) L st) : Wa G Y Z c0 s0 n μ pc L (.inl x3 :: .inl x2 :: .inl x1 :: .inl x0 :: .inr a :: st) :=
  c_VV (Yc := Y_X11_findsWay) (As := [.inl x0, .inl x1, .inl x2, .inl x3]) rfl hd (by rw [hY]; exact lm_X11_191) mc_X11_findsWay mi_X11_findsWay ms_X11_findsWay hst (fits_of hf hc hs) cf_11.2.1 (by decide) ho h rfl rfl w
theorem lm_X11_195 : Cond.methodLink RX11 195 yX11_pushesOut ∈ gT := gT_mem (i := 1052) (by decide +kernel) (by decide +kernel)
theorem k_X11_195 {G : GT} {Y : MD} {Z : ZT} {c0 s0 n pc : Nat} {μ : Mem} {L : List (Nat × AV)} {st : List AV} {a : Int} {x0 : Int} {Q : Int → Nat → Mem → Prop} (hY : Y.1.cls = RX11) (hd : decode Y.2.1 pc = .ok (.invokevirtual 195, 3)) (hst : st.length ≤ 8) (hf : fitsB Y Y_X11_pushesOut = true) (hc : c0 + 0 ≤ Y.2.2.2.2.2.2.1) (hs : s0 + 0 ≤ Y.2.2.2.2.2.2.2) (ho : gx G n μ → 0 ≤ a ∧ a < n ∧ SH a = (11, 28)) (h : CI G Y_X11_pushesOut [.inr a, .inl x0] n μ Q) (w : ∀ (x : Int) (n' : Nat) (ν : Mem), Q x n' ν → Wa G Y Z c0 s0 n' ν (pc + 3) L (.inl x :: st)) : Wa G Y Z c0 s0 n μ pc L (.inl x0 :: .inr a :: st) :=
  c_VI (Yc := Y_X11_pushesOut) (As := [.inl x0]) rfl hd (by rw [hY]; exact lm_X11_195) mc_X11_pushesOut mi_X11_pushesOut ms_X11_pushesOut hst (fits_of hf hc hs) cf_11.2.1 (by decide) ho h rfl rfl w
theorem lm_X11_198 : Cond.methodLink RX11 198 yX11_plans ∈ gT := gT_mem (i := 992) (by decide +kernel) (by decide +kernel)
theorem k_X11_198 {G : GT} {Y : MD} {Z : ZT} {c0 s0 n pc : Nat} {μ : Mem} {L : List (Nat × AV)} {st : List AV} {a : Int} {x0 : Int} {Q : Int → Nat → Mem → Prop} (hY : Y.1.cls = RX11) (hd : decode Y.2.1 pc = .ok (.invokevirtual 198, 3)) (hst : st.length ≤ 8) (hf : fitsB Y Y_X11_plans = true) (hc : c0 + 0 ≤ Y.2.2.2.2.2.2.1) (hs : s0 + 0 ≤ Y.2.2.2.2.2.2.2) (ho : gx G n μ → 0 ≤ a ∧ a < n ∧ SH a = (11, 28)) (h : CI G Y_X11_plans [.inr a, .inl x0] n μ Q) (w : ∀ (x : Int) (n' : Nat) (ν : Mem), Q x n' ν → Wa G Y Z c0 s0 n' ν (pc + 3) L (.inl x :: st)) : Wa G Y Z c0 s0 n μ pc L (.inl x0 :: .inr a :: st) :=
  c_VI (Yc := Y_X11_plans) (As := [.inl x0]) rfl hd (by rw [hY]; exact lm_X11_198) mc_X11_plans mi_X11_plans ms_X11_plans hst (fits_of hf hc hs) cf_11.2.1 (by decide) ho h rfl rfl w
theorem lm_X11_201 : Cond.methodLink RX11 201 yX11_copies ∈ gT := gT_mem (i := 974) (by decide +kernel) (by decide +kernel)
theorem k_X11_201 {G : GT} {Y : MD} {Z : ZT} {c0 s0 n pc : Nat} {μ : Mem} {L : List (Nat × AV)} {st : List AV} {a : Int} {x0 x1 x2 x3 : Int} {Q : Nat → Mem → Prop} (hY : Y.1.cls = RX11) (hd : decode Y.2.1 pc = .ok (.invokevirtual 201, 3)) (hst : st.length ≤ 8) (hf : fitsB Y Y_X11_copies = true) (hc : c0 + 0 ≤ Y.2.2.2.2.2.2.1) (hs : s0 + 0 ≤ Y.2.2.2.2.2.2.2) (ho : gx G n μ → 0 ≤ a ∧ a < n ∧ SH a = (11, 28)) (h : CV G Y_X11_copies [.inr a, .inr x0, .inr x1, .inl x2, .inl x3] n μ Q) (w : ∀ (n' : Nat) (ν : Mem), Q n' ν → Wa G Y Z c0 s0 n' ν (pc + 3) L st) : Wa G Y Z c0 s0 n μ pc L (.inl x3 :: .inl x2 :: .inr x1 :: .inr x0 :: .inr a :: st) :=
  c_VV (Yc := Y_X11_copies) (As := [.inr x0, .inr x1, .inl x2, .inl x3]) rfl hd (by rw [hY]; exact lm_X11_201) mc_X11_copies mi_X11_copies ms_X11_copies hst (fits_of hf hc hs) cf_11.2.1 (by decide) ho h rfl rfl w
theorem lm_X11_205 : Cond.methodLink RX11 205 yX11_isNode ∈ gT := gT_mem (i := 966) (by decide +kernel) (by decide +kernel)
theorem k_X11_205 {G : GT} {Y : MD} {Z : ZT} {c0 s0 n pc : Nat} {μ : Mem} {L : List (Nat × AV)} {st : List AV} {a : Int} {x0 : Int} {Q : Int → Nat → Mem → Prop} (hY : Y.1.cls = RX11) (hd : decode Y.2.1 pc = .ok (.invokevirtual 205, 3)) (hst : st.length ≤ 8) (hf : fitsB Y Y_X11_isNode = true) (hc : c0 + 0 ≤ Y.2.2.2.2.2.2.1) (hs : s0 + 0 ≤ Y.2.2.2.2.2.2.2) (ho : gx G n μ → 0 ≤ a ∧ a < n ∧ SH a = (11, 28)) (h : CI G Y_X11_isNode [.inr a, .inl x0] n μ Q) (w : ∀ (x : Int) (n' : Nat) (ν : Mem), Q x n' ν → Wa G Y Z c0 s0 n' ν (pc + 3) L (.inl x :: st)) : Wa G Y Z c0 s0 n μ pc L (.inl x0 :: .inr a :: st) :=
  c_VI (Yc := Y_X11_isNode) (As := [.inl x0]) rfl hd (by rw [hY]; exact lm_X11_205) mc_X11_isNode mi_X11_isNode ms_X11_isNode hst (fits_of hf hc hs) cf_11.2.1 (by decide) ho h rfl rfl w
theorem lm_X11_208 : Cond.methodLink RX11 208 yX11_notes ∈ gT := gT_mem (i := 970) (by decide +kernel) (by decide +kernel)
theorem k_X11_208 {G : GT} {Y : MD} {Z : ZT} {c0 s0 n pc : Nat} {μ : Mem} {L : List (Nat × AV)} {st : List AV} {a : Int} {Q : Nat → Mem → Prop} (hY : Y.1.cls = RX11) (hd : decode Y.2.1 pc = .ok (.invokevirtual 208, 3)) (hst : st.length ≤ 8) (hf : fitsB Y Y_X11_notes = true) (hc : c0 + 0 ≤ Y.2.2.2.2.2.2.1) (hs : s0 + 0 ≤ Y.2.2.2.2.2.2.2) (ho : gx G n μ → 0 ≤ a ∧ a < n ∧ SH a = (11, 28)) (h : CV G Y_X11_notes [.inr a] n μ Q) (w : ∀ (n' : Nat) (ν : Mem), Q n' ν → Wa G Y Z c0 s0 n' ν (pc + 3) L st) : Wa G Y Z c0 s0 n μ pc L (.inr a :: st) :=
  c_VV (Yc := Y_X11_notes) (As := []) rfl hd (by rw [hY]; exact lm_X11_208) mc_X11_notes mi_X11_notes ms_X11_notes hst (fits_of hf hc hs) cf_11.2.1 (by decide) ho h rfl rfl w
theorem lm_X11_211 : Cond.methodLink RX11 211 yX11_plansAll ∈ gT := gT_mem (i := 981) (by decide +kernel) (by decide +kernel)
theorem k_X11_211 {G : GT} {Y : MD} {Z : ZT} {c0 s0 n pc : Nat} {μ : Mem} {L : List (Nat × AV)} {st : List AV} {a : Int} {x0 : Int} {Q : Nat → Mem → Prop} (hY : Y.1.cls = RX11) (hd : decode Y.2.1 pc = .ok (.invokevirtual 211, 3)) (hst : st.length ≤ 8) (hf : fitsB Y Y_X11_plansAll = true) (hc : c0 + 0 ≤ Y.2.2.2.2.2.2.1) (hs : s0 + 0 ≤ Y.2.2.2.2.2.2.2) (ho : gx G n μ → 0 ≤ a ∧ a < n ∧ SH a = (11, 28)) (h : CV G Y_X11_plansAll [.inr a, .inl x0] n μ Q) (w : ∀ (n' : Nat) (ν : Mem), Q n' ν → Wa G Y Z c0 s0 n' ν (pc + 3) L st) : Wa G Y Z c0 s0 n μ pc L (.inl x0 :: .inr a :: st) :=
  c_VV (Yc := Y_X11_plansAll) (As := [.inl x0]) rfl hd (by rw [hY]; exact lm_X11_211) mc_X11_plansAll mi_X11_plansAll ms_X11_plansAll hst (fits_of hf hc hs) cf_11.2.1 (by decide) ho h rfl rfl w
theorem lm_X11_214 : Cond.methodLink RX11 214 yX11_lastEnd ∈ gT := gT_mem (i := 1060) (by decide +kernel) (by decide +kernel)
theorem k_X11_214 {G : GT} {Y : MD} {Z : ZT} {c0 s0 n pc : Nat} {μ : Mem} {L : List (Nat × AV)} {st : List AV} {a : Int} {x0 : Int} {Q : Int → Nat → Mem → Prop} (hY : Y.1.cls = RX11) (hd : decode Y.2.1 pc = .ok (.invokevirtual 214, 3)) (hst : st.length ≤ 8) (hf : fitsB Y Y_X11_lastEnd = true) (hc : c0 + 0 ≤ Y.2.2.2.2.2.2.1) (hs : s0 + 0 ≤ Y.2.2.2.2.2.2.2) (ho : gx G n μ → 0 ≤ a ∧ a < n ∧ SH a = (11, 28)) (h : CI G Y_X11_lastEnd [.inr a, .inl x0] n μ Q) (w : ∀ (x : Int) (n' : Nat) (ν : Mem), Q x n' ν → Wa G Y Z c0 s0 n' ν (pc + 3) L (.inl x :: st)) : Wa G Y Z c0 s0 n μ pc L (.inl x0 :: .inr a :: st) :=
  c_VI (Yc := Y_X11_lastEnd) (As := [.inl x0]) rfl hd (by rw [hY]; exact lm_X11_214) mc_X11_lastEnd mi_X11_lastEnd ms_X11_lastEnd hst (fits_of hf hc hs) cf_11.2.1 (by decide) ho h rfl rfl w
theorem lm_X11_217 : Cond.methodLink RX11 217 yX11_isBundle ∈ gT := gT_mem (i := 1068) (by decide +kernel) (by decide +kernel)
theorem k_X11_217 {G : GT} {Y : MD} {Z : ZT} {c0 s0 n pc : Nat} {μ : Mem} {L : List (Nat × AV)} {st : List AV} {a : Int} {x0 : Int} {Q : Int → Nat → Mem → Prop} (hY : Y.1.cls = RX11) (hd : decode Y.2.1 pc = .ok (.invokevirtual 217, 3)) (hst : st.length ≤ 8) (hf : fitsB Y Y_X11_isBundle = true) (hc : c0 + 0 ≤ Y.2.2.2.2.2.2.1) (hs : s0 + 0 ≤ Y.2.2.2.2.2.2.2) (ho : gx G n μ → 0 ≤ a ∧ a < n ∧ SH a = (11, 28)) (h : CI G Y_X11_isBundle [.inr a, .inl x0] n μ Q) (w : ∀ (x : Int) (n' : Nat) (ν : Mem), Q x n' ν → Wa G Y Z c0 s0 n' ν (pc + 3) L (.inl x :: st)) : Wa G Y Z c0 s0 n μ pc L (.inl x0 :: .inr a :: st) :=
  c_VI (Yc := Y_X11_isBundle) (As := [.inl x0]) rfl hd (by rw [hY]; exact lm_X11_217) mc_X11_isBundle mi_X11_isBundle ms_X11_isBundle hst (fits_of hf hc hs) cf_11.2.1 (by decide) ho h rfl rfl w
theorem lm_X11_220 : Cond.methodLink RX11 220 yX11_moves ∈ gT := gT_mem (i := 1076) (by decide +kernel) (by decide +kernel)
theorem k_X11_220 {G : GT} {Y : MD} {Z : ZT} {c0 s0 n pc : Nat} {μ : Mem} {L : List (Nat × AV)} {st : List AV} {a : Int} {x0 : Int} {Q : Nat → Mem → Prop} (hY : Y.1.cls = RX11) (hd : decode Y.2.1 pc = .ok (.invokevirtual 220, 3)) (hst : st.length ≤ 8) (hf : fitsB Y Y_X11_moves = true) (hc : c0 + 0 ≤ Y.2.2.2.2.2.2.1) (hs : s0 + 0 ≤ Y.2.2.2.2.2.2.2) (ho : gx G n μ → 0 ≤ a ∧ a < n ∧ SH a = (11, 28)) (h : CV G Y_X11_moves [.inr a, .inl x0] n μ Q) (w : ∀ (n' : Nat) (ν : Mem), Q n' ν → Wa G Y Z c0 s0 n' ν (pc + 3) L st) : Wa G Y Z c0 s0 n μ pc L (.inl x0 :: .inr a :: st) :=
  c_VV (Yc := Y_X11_moves) (As := [.inl x0]) rfl hd (by rw [hY]; exact lm_X11_220) mc_X11_moves mi_X11_moves ms_X11_moves hst (fits_of hf hc hs) cf_11.2.1 (by decide) ho h rfl rfl w
theorem lm_X11_223 : Cond.methodLink RX11 223 yX11_hasHopOn ∈ gT := gT_mem (i := 1088) (by decide +kernel) (by decide +kernel)
theorem k_X11_223 {G : GT} {Y : MD} {Z : ZT} {c0 s0 n pc : Nat} {μ : Mem} {L : List (Nat × AV)} {st : List AV} {a : Int} {x0 x1 : Int} {Q : Int → Nat → Mem → Prop} (hY : Y.1.cls = RX11) (hd : decode Y.2.1 pc = .ok (.invokevirtual 223, 3)) (hst : st.length ≤ 8) (hf : fitsB Y Y_X11_hasHopOn = true) (hc : c0 + 0 ≤ Y.2.2.2.2.2.2.1) (hs : s0 + 0 ≤ Y.2.2.2.2.2.2.2) (ho : gx G n μ → 0 ≤ a ∧ a < n ∧ SH a = (11, 28)) (h : CI G Y_X11_hasHopOn [.inr a, .inl x0, .inl x1] n μ Q) (w : ∀ (x : Int) (n' : Nat) (ν : Mem), Q x n' ν → Wa G Y Z c0 s0 n' ν (pc + 3) L (.inl x :: st)) : Wa G Y Z c0 s0 n μ pc L (.inl x1 :: .inl x0 :: .inr a :: st) :=
  c_VI (Yc := Y_X11_hasHopOn) (As := [.inl x0, .inl x1]) rfl hd (by rw [hY]; exact lm_X11_223) mc_X11_hasHopOn mi_X11_hasHopOn ms_X11_hasHopOn hst (fits_of hf hc hs) cf_11.2.1 (by decide) ho h rfl rfl w
theorem lm_X11_226 : Cond.methodLink RX11 226 yX11_loses ∈ gT := gT_mem (i := 1084) (by decide +kernel) (by decide +kernel)
theorem k_X11_226 {G : GT} {Y : MD} {Z : ZT} {c0 s0 n pc : Nat} {μ : Mem} {L : List (Nat × AV)} {st : List AV} {a : Int} {x0 : Int} {Q : Nat → Mem → Prop} (hY : Y.1.cls = RX11) (hd : decode Y.2.1 pc = .ok (.invokevirtual 226, 3)) (hst : st.length ≤ 8) (hf : fitsB Y Y_X11_loses = true) (hc : c0 + 0 ≤ Y.2.2.2.2.2.2.1) (hs : s0 + 0 ≤ Y.2.2.2.2.2.2.2) (ho : gx G n μ → 0 ≤ a ∧ a < n ∧ SH a = (11, 28)) (h : CV G Y_X11_loses [.inr a, .inl x0] n μ Q) (w : ∀ (n' : Nat) (ν : Mem), Q n' ν → Wa G Y Z c0 s0 n' ν (pc + 3) L st) : Wa G Y Z c0 s0 n μ pc L (.inl x0 :: .inr a :: st) :=
  c_VV (Yc := Y_X11_loses) (As := [.inl x0]) rfl hd (by rw [hY]; exact lm_X11_226) mc_X11_loses mi_X11_loses ms_X11_loses hst (fits_of hf hc hs) cf_11.2.1 (by decide) ho h rfl rfl w
theorem lm_X11_229 : Cond.methodLink RX11 229 yX11_countOf ∈ gT := gT_mem (i := 1092) (by decide +kernel) (by decide +kernel)
theorem k_X11_229 {G : GT} {Y : MD} {Z : ZT} {c0 s0 n pc : Nat} {μ : Mem} {L : List (Nat × AV)} {st : List AV} {a : Int} {x0 : Int} {Q : Int → Nat → Mem → Prop} (hY : Y.1.cls = RX11) (hd : decode Y.2.1 pc = .ok (.invokevirtual 229, 3)) (hst : st.length ≤ 8) (hf : fitsB Y Y_X11_countOf = true) (hc : c0 + 0 ≤ Y.2.2.2.2.2.2.1) (hs : s0 + 0 ≤ Y.2.2.2.2.2.2.2) (ho : gx G n μ → 0 ≤ a ∧ a < n ∧ SH a = (11, 28)) (h : CI G Y_X11_countOf [.inr a, .inl x0] n μ Q) (w : ∀ (x : Int) (n' : Nat) (ν : Mem), Q x n' ν → Wa G Y Z c0 s0 n' ν (pc + 3) L (.inl x :: st)) : Wa G Y Z c0 s0 n μ pc L (.inl x0 :: .inr a :: st) :=
  c_VI (Yc := Y_X11_countOf) (As := [.inl x0]) rfl hd (by rw [hY]; exact lm_X11_229) mc_X11_countOf mi_X11_countOf ms_X11_countOf hst (fits_of hf hc hs) cf_11.2.1 (by decide) ho h rfl rfl w
theorem lm_X11_232 : Cond.methodLink RX11 232 yX11_takesTick ∈ gT := gT_mem (i := 1116) (by decide +kernel) (by decide +kernel)
theorem k_X11_232 {G : GT} {Y : MD} {Z : ZT} {c0 s0 n pc : Nat} {μ : Mem} {L : List (Nat × AV)} {st : List AV} {a : Int} {x0 x1 x2 x3 : Int} {Q : Int → Nat → Mem → Prop} (hY : Y.1.cls = RX11) (hd : decode Y.2.1 pc = .ok (.invokevirtual 232, 3)) (hst : st.length ≤ 8) (hf : fitsB Y Y_X11_takesTick = true) (hc : c0 + 0 ≤ Y.2.2.2.2.2.2.1) (hs : s0 + 0 ≤ Y.2.2.2.2.2.2.2) (ho : gx G n μ → 0 ≤ a ∧ a < n ∧ SH a = (11, 28)) (h : CI G Y_X11_takesTick [.inr a, .inl x0, .inl x1, .inl x2, .inl x3] n μ Q) (w : ∀ (x : Int) (n' : Nat) (ν : Mem), Q x n' ν → Wa G Y Z c0 s0 n' ν (pc + 3) L (.inl x :: st)) : Wa G Y Z c0 s0 n μ pc L (.inl x3 :: .inl x2 :: .inl x1 :: .inl x0 :: .inr a :: st) :=
  c_VI (Yc := Y_X11_takesTick) (As := [.inl x0, .inl x1, .inl x2, .inl x3]) rfl hd (by rw [hY]; exact lm_X11_232) mc_X11_takesTick mi_X11_takesTick ms_X11_takesTick hst (fits_of hf hc hs) cf_11.2.1 (by decide) ho h rfl rfl w
theorem lm_X11_235 : Cond.methodLink RX11 235 yX11_askedOf ∈ gT := gT_mem (i := 1124) (by decide +kernel) (by decide +kernel)
theorem k_X11_235 {G : GT} {Y : MD} {Z : ZT} {c0 s0 n pc : Nat} {μ : Mem} {L : List (Nat × AV)} {st : List AV} {a : Int} {x0 x1 x2 x3 x4 : Int} {Q : Int → Nat → Mem → Prop} (hY : Y.1.cls = RX11) (hd : decode Y.2.1 pc = .ok (.invokevirtual 235, 3)) (hst : st.length ≤ 8) (hf : fitsB Y Y_X11_askedOf = true) (hc : c0 + 0 ≤ Y.2.2.2.2.2.2.1) (hs : s0 + 0 ≤ Y.2.2.2.2.2.2.2) (ho : gx G n μ → 0 ≤ a ∧ a < n ∧ SH a = (11, 28)) (h : CI G Y_X11_askedOf [.inr a, .inl x0, .inl x1, .inl x2, .inl x3, .inl x4] n μ Q) (w : ∀ (x : Int) (n' : Nat) (ν : Mem), Q x n' ν → Wa G Y Z c0 s0 n' ν (pc + 3) L (.inl x :: st)) : Wa G Y Z c0 s0 n μ pc L (.inl x4 :: .inl x3 :: .inl x2 :: .inl x1 :: .inl x0 :: .inr a :: st) :=
  c_VI (Yc := Y_X11_askedOf) (As := [.inl x0, .inl x1, .inl x2, .inl x3, .inl x4]) rfl hd (by rw [hY]; exact lm_X11_235) mc_X11_askedOf mi_X11_askedOf ms_X11_askedOf hst (fits_of hf hc hs) cf_11.2.1 (by decide) ho h rfl rfl w
