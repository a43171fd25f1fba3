-- the law: its decode rows and cases, by program (wip/gen/gen_cases.py)
/-- the locals behind the script: the number of the place, the model, the class -/
abbrev lL (i : Int) : List (Nat × AV) := [(3, .inl i), (2, .inr 399), (1, .inr 0)]
theorem dL_law_0 : decode cL_law 0 = .ok (.new 7, 3) := by decide +kernel
theorem dL_law_3 : decode cL_law 3 = .ok (.dup, 1) := by decide +kernel
theorem dL_law_4 : decode cL_law 4 = .ok (.invokespecial 9, 3) := by decide +kernel
theorem dL_law_7 : decode cL_law 7 = .ok (.astore_n 1, 1) := by decide +kernel
theorem dL_law_8 : decode cL_law 8 = .ok (.new 10, 3) := by decide +kernel
theorem dL_law_11 : decode cL_law 11 = .ok (.dup, 1) := by decide +kernel
theorem dL_law_12 : decode cL_law 12 = .ok (.invokespecial 12, 3) := by decide +kernel
theorem dL_law_15 : decode cL_law 15 = .ok (.astore_n 2, 1) := by decide +kernel
theorem dL_law_16 : decode cL_law 16 = .ok (.iconst 0, 1) := by decide +kernel
theorem dL_law_17 : decode cL_law 17 = .ok (.istore_n 3, 1) := by decide +kernel
theorem dL_law_18 : decode cL_law 18 = .ok (.iload_n 3, 1) := by decide +kernel
theorem dL_law_19 : decode cL_law 19 = .ok (.aload_n 0, 1) := by decide +kernel
theorem dL_law_20 : decode cL_law 20 = .ok (.arraylength, 1) := by decide +kernel
theorem dL_law_21 : decode cL_law 21 = .ok (.bipush 6, 2) := by decide +kernel
theorem dL_law_23 : decode cL_law 23 = .ok (.isub, 1) := by decide +kernel
theorem dL_law_24 : decode cL_law 24 = .ok (.if_icmp .gt 734, 3) := by decide +kernel
theorem dL_law_27 : decode cL_law 27 = .ok (.aload_n 0, 1) := by decide +kernel
theorem dL_law_28 : decode cL_law 28 = .ok (.iload_n 3, 1) := by decide +kernel
theorem dL_law_29 : decode cL_law 29 = .ok (.iaload, 1) := by decide +kernel
theorem dL_law_30 : decode cL_law 30 = .ok (.bipush 31, 2) := by decide +kernel
theorem dL_law_32 : decode cL_law 32 = .ok (.iand, 1) := by decide +kernel
theorem dL_law_33 : decode cL_law 33 = .ok (.tableswitch 719 0 21 #[103, 126, 139, 152, 185, 248, 271, 294, 317, 340, 353, 386, 429, 462, 515, 568, 581, 624, 637, 650, 673, 696], 103) := by decide +kernel
theorem dL_law_752 : decode cL_law 752 = .ok (.iinc 3 6, 3) := by decide +kernel
theorem dL_law_755 : decode cL_law 755 = .ok (.goto (-737), 3) := by decide +kernel
theorem dL_law_758 : decode cL_law 758 = .ok (.iconst 1, 1) := by decide +kernel
theorem dL_law_759 : decode cL_law 759 = .ok (.ireturn, 1) := by decide +kernel
theorem dL_law_136 : decode cL_law 136 = .ok (.aload_n 1, 1) := by decide +kernel
theorem dL_law_137 : decode cL_law 137 = .ok (.aload_n 0, 1) := by decide +kernel
theorem dL_law_138 : decode cL_law 138 = .ok (.iload_n 3, 1) := by decide +kernel
theorem dL_law_139 : decode cL_law 139 = .ok (.iconst 1, 1) := by decide +kernel
theorem dL_law_140 : decode cL_law 140 = .ok (.iadd, 1) := by decide +kernel
theorem dL_law_141 : decode cL_law 141 = .ok (.iaload, 1) := by decide +kernel
theorem dL_law_142 : decode cL_law 142 = .ok (.invokevirtual 13, 3) := by decide +kernel
theorem dL_law_145 : decode cL_law 145 = .ok (.aload_n 2, 1) := by decide +kernel
theorem dL_law_146 : decode cL_law 146 = .ok (.aload_n 0, 1) := by decide +kernel
theorem dL_law_147 : decode cL_law 147 = .ok (.iload_n 3, 1) := by decide +kernel
theorem dL_law_148 : decode cL_law 148 = .ok (.iconst 1, 1) := by decide +kernel
theorem dL_law_149 : decode cL_law 149 = .ok (.iadd, 1) := by decide +kernel
theorem dL_law_150 : decode cL_law 150 = .ok (.iaload, 1) := by decide +kernel
theorem dL_law_151 : decode cL_law 151 = .ok (.invokevirtual 17, 3) := by decide +kernel
theorem dL_law_154 : decode cL_law 154 = .ok (.if_icmp .eq 598, 3) := by decide +kernel
theorem dL_law_159 : decode cL_law 159 = .ok (.aload_n 1, 1) := by decide +kernel
theorem dL_law_160 : decode cL_law 160 = .ok (.invokevirtual 18, 3) := by decide +kernel
theorem dL_law_163 : decode cL_law 163 = .ok (.aload_n 2, 1) := by decide +kernel
theorem dL_law_164 : decode cL_law 164 = .ok (.invokevirtual 22, 3) := by decide +kernel
theorem dL_law_167 : decode cL_law 167 = .ok (.if_icmp .eq 585, 3) := by decide +kernel
theorem dL_law_172 : decode cL_law 172 = .ok (.aload_n 1, 1) := by decide +kernel
theorem dL_law_173 : decode cL_law 173 = .ok (.invokevirtual 23, 3) := by decide +kernel
theorem dL_law_176 : decode cL_law 176 = .ok (.aload_n 2, 1) := by decide +kernel
theorem dL_law_177 : decode cL_law 177 = .ok (.invokevirtual 26, 3) := by decide +kernel
theorem dL_law_180 : decode cL_law 180 = .ok (.if_icmp .eq 572, 3) := by decide +kernel
theorem dL_law_185 : decode cL_law 185 = .ok (.aload_n 1, 1) := by decide +kernel
theorem dL_law_186 : decode cL_law 186 = .ok (.aload_n 0, 1) := by decide +kernel
theorem dL_law_187 : decode cL_law 187 = .ok (.iload_n 3, 1) := by decide +kernel
theorem dL_law_188 : decode cL_law 188 = .ok (.iconst 1, 1) := by decide +kernel
theorem dL_law_189 : decode cL_law 189 = .ok (.iadd, 1) := by decide +kernel
theorem dL_law_190 : decode cL_law 190 = .ok (.iaload, 1) := by decide +kernel
theorem dL_law_191 : decode cL_law 191 = .ok (.aload_n 0, 1) := by decide +kernel
theorem dL_law_192 : decode cL_law 192 = .ok (.iload_n 3, 1) := by decide +kernel
theorem dL_law_193 : decode cL_law 193 = .ok (.iconst 2, 1) := by decide +kernel
theorem dL_law_194 : decode cL_law 194 = .ok (.iadd, 1) := by decide +kernel
theorem dL_law_195 : decode cL_law 195 = .ok (.iaload, 1) := by decide +kernel
theorem dL_law_196 : decode cL_law 196 = .ok (.invokevirtual 27, 3) := by decide +kernel
theorem dL_law_199 : decode cL_law 199 = .ok (.aload_n 2, 1) := by decide +kernel
theorem dL_law_200 : decode cL_law 200 = .ok (.aload_n 0, 1) := by decide +kernel
theorem dL_law_201 : decode cL_law 201 = .ok (.iload_n 3, 1) := by decide +kernel
theorem dL_law_202 : decode cL_law 202 = .ok (.iconst 1, 1) := by decide +kernel
theorem dL_law_203 : decode cL_law 203 = .ok (.iadd, 1) := by decide +kernel
theorem dL_law_204 : decode cL_law 204 = .ok (.iaload, 1) := by decide +kernel
theorem dL_law_205 : decode cL_law 205 = .ok (.aload_n 0, 1) := by decide +kernel
theorem dL_law_206 : decode cL_law 206 = .ok (.iload_n 3, 1) := by decide +kernel
theorem dL_law_207 : decode cL_law 207 = .ok (.iconst 2, 1) := by decide +kernel
theorem dL_law_208 : decode cL_law 208 = .ok (.iadd, 1) := by decide +kernel
theorem dL_law_209 : decode cL_law 209 = .ok (.iaload, 1) := by decide +kernel
theorem dL_law_210 : decode cL_law 210 = .ok (.invokevirtual 31, 3) := by decide +kernel
theorem dL_law_213 : decode cL_law 213 = .ok (.if_icmp .eq 539, 3) := by decide +kernel
theorem dL_law_218 : decode cL_law 218 = .ok (.aload_n 1, 1) := by decide +kernel
theorem dL_law_219 : decode cL_law 219 = .ok (.aload_n 0, 1) := by decide +kernel
theorem dL_law_220 : decode cL_law 220 = .ok (.iload_n 3, 1) := by decide +kernel
theorem dL_law_221 : decode cL_law 221 = .ok (.iconst 1, 1) := by decide +kernel
theorem dL_law_222 : decode cL_law 222 = .ok (.iadd, 1) := by decide +kernel
theorem dL_law_223 : decode cL_law 223 = .ok (.iaload, 1) := by decide +kernel
theorem dL_law_224 : decode cL_law 224 = .ok (.aload_n 0, 1) := by decide +kernel
theorem dL_law_225 : decode cL_law 225 = .ok (.iload_n 3, 1) := by decide +kernel
theorem dL_law_226 : decode cL_law 226 = .ok (.iconst 2, 1) := by decide +kernel
theorem dL_law_227 : decode cL_law 227 = .ok (.iadd, 1) := by decide +kernel
theorem dL_law_228 : decode cL_law 228 = .ok (.iaload, 1) := by decide +kernel
theorem dL_law_229 : decode cL_law 229 = .ok (.aload_n 0, 1) := by decide +kernel
theorem dL_law_230 : decode cL_law 230 = .ok (.iload_n 3, 1) := by decide +kernel
theorem dL_law_231 : decode cL_law 231 = .ok (.iconst 3, 1) := by decide +kernel
theorem dL_law_232 : decode cL_law 232 = .ok (.iadd, 1) := by decide +kernel
theorem dL_law_233 : decode cL_law 233 = .ok (.iaload, 1) := by decide +kernel
theorem dL_law_234 : decode cL_law 234 = .ok (.aload_n 0, 1) := by decide +kernel
theorem dL_law_235 : decode cL_law 235 = .ok (.iload_n 3, 1) := by decide +kernel
theorem dL_law_236 : decode cL_law 236 = .ok (.iconst 4, 1) := by decide +kernel
theorem dL_law_237 : decode cL_law 237 = .ok (.iadd, 1) := by decide +kernel
theorem dL_law_238 : decode cL_law 238 = .ok (.iaload, 1) := by decide +kernel
theorem dL_law_239 : decode cL_law 239 = .ok (.aload_n 0, 1) := by decide +kernel
theorem dL_law_240 : decode cL_law 240 = .ok (.iload_n 3, 1) := by decide +kernel
theorem dL_law_241 : decode cL_law 241 = .ok (.iconst 5, 1) := by decide +kernel
theorem dL_law_242 : decode cL_law 242 = .ok (.iadd, 1) := by decide +kernel
theorem dL_law_243 : decode cL_law 243 = .ok (.iaload, 1) := by decide +kernel
theorem dL_law_244 : decode cL_law 244 = .ok (.invokevirtual 32, 3) := by decide +kernel
theorem dL_law_247 : decode cL_law 247 = .ok (.aload_n 2, 1) := by decide +kernel
theorem dL_law_248 : decode cL_law 248 = .ok (.aload_n 0, 1) := by decide +kernel
theorem dL_law_249 : decode cL_law 249 = .ok (.iload_n 3, 1) := by decide +kernel
theorem dL_law_250 : decode cL_law 250 = .ok (.iconst 1, 1) := by decide +kernel
theorem dL_law_251 : decode cL_law 251 = .ok (.iadd, 1) := by decide +kernel
theorem dL_law_252 : decode cL_law 252 = .ok (.iaload, 1) := by decide +kernel
theorem dL_law_253 : decode cL_law 253 = .ok (.aload_n 0, 1) := by decide +kernel
theorem dL_law_254 : decode cL_law 254 = .ok (.iload_n 3, 1) := by decide +kernel
theorem dL_law_255 : decode cL_law 255 = .ok (.iconst 2, 1) := by decide +kernel
theorem dL_law_256 : decode cL_law 256 = .ok (.iadd, 1) := by decide +kernel
theorem dL_law_257 : decode cL_law 257 = .ok (.iaload, 1) := by decide +kernel
theorem dL_law_258 : decode cL_law 258 = .ok (.aload_n 0, 1) := by decide +kernel
theorem dL_law_259 : decode cL_law 259 = .ok (.iload_n 3, 1) := by decide +kernel
theorem dL_law_260 : decode cL_law 260 = .ok (.iconst 3, 1) := by decide +kernel
theorem dL_law_261 : decode cL_law 261 = .ok (.iadd, 1) := by decide +kernel
theorem dL_law_262 : decode cL_law 262 = .ok (.iaload, 1) := by decide +kernel
theorem dL_law_263 : decode cL_law 263 = .ok (.aload_n 0, 1) := by decide +kernel
theorem dL_law_264 : decode cL_law 264 = .ok (.iload_n 3, 1) := by decide +kernel
theorem dL_law_265 : decode cL_law 265 = .ok (.iconst 4, 1) := by decide +kernel
theorem dL_law_266 : decode cL_law 266 = .ok (.iadd, 1) := by decide +kernel
theorem dL_law_267 : decode cL_law 267 = .ok (.iaload, 1) := by decide +kernel
theorem dL_law_268 : decode cL_law 268 = .ok (.aload_n 0, 1) := by decide +kernel
theorem dL_law_269 : decode cL_law 269 = .ok (.iload_n 3, 1) := by decide +kernel
theorem dL_law_270 : decode cL_law 270 = .ok (.iconst 5, 1) := by decide +kernel
theorem dL_law_271 : decode cL_law 271 = .ok (.iadd, 1) := by decide +kernel
theorem dL_law_272 : decode cL_law 272 = .ok (.iaload, 1) := by decide +kernel
theorem dL_law_273 : decode cL_law 273 = .ok (.invokevirtual 36, 3) := by decide +kernel
theorem dL_law_276 : decode cL_law 276 = .ok (.if_icmp .eq 476, 3) := by decide +kernel
theorem dL_law_281 : decode cL_law 281 = .ok (.aload_n 1, 1) := by decide +kernel
theorem dL_law_282 : decode cL_law 282 = .ok (.aload_n 0, 1) := by decide +kernel
theorem dL_law_283 : decode cL_law 283 = .ok (.iload_n 3, 1) := by decide +kernel
theorem dL_law_284 : decode cL_law 284 = .ok (.iconst 1, 1) := by decide +kernel
theorem dL_law_285 : decode cL_law 285 = .ok (.iadd, 1) := by decide +kernel
theorem dL_law_286 : decode cL_law 286 = .ok (.iaload, 1) := by decide +kernel
theorem dL_law_287 : decode cL_law 287 = .ok (.invokevirtual 37, 3) := by decide +kernel
theorem dL_law_290 : decode cL_law 290 = .ok (.aload_n 2, 1) := by decide +kernel
theorem dL_law_291 : decode cL_law 291 = .ok (.aload_n 0, 1) := by decide +kernel
theorem dL_law_292 : decode cL_law 292 = .ok (.iload_n 3, 1) := by decide +kernel
theorem dL_law_293 : decode cL_law 293 = .ok (.iconst 1, 1) := by decide +kernel
theorem dL_law_294 : decode cL_law 294 = .ok (.iadd, 1) := by decide +kernel
theorem dL_law_295 : decode cL_law 295 = .ok (.iaload, 1) := by decide +kernel
theorem dL_law_296 : decode cL_law 296 = .ok (.invokevirtual 40, 3) := by decide +kernel
theorem dL_law_299 : decode cL_law 299 = .ok (.if_icmp .eq 453, 3) := by decide +kernel
section CasesL
variable {G : GT} {b Ls : Nat} {xs : Nat → Int32} {c0 s0 n : Nat} {μ : Mem} {i : Int}
theorem ca_136 (hg : gx G = fun _ _ => True) (hF : FX n μ) (hI : INV n μ) (h0 : 0 ≤ i) (h1 : i + 6 ≤ Ls) (hLs : Ls ≤ 3072) (hc : c0 + 150 ≤ 600000) (hs : s0 + 900 ≤ 7302250) (w : ∀ (n' : Nat) (ν : Mem), FX n' ν → INV n' ν → Wl G b Ls xs (c0 + 150) (s0 + 900) n' ν 752 (lL i) []) : Wl G b Ls xs c0 s0 n μ 136 (lL i) [] := by
  have hP : Pr (setX G FX) Y_X10_type Y_X11_type [.inl (xs (i + ((1 : Nat) : Int)).toNat).toInt] n μ := P_type rfl hI
  refine l_aload_n (k := 2) (by decide) dL_law_136 rfl rfl ?_
  refine l_elem (j := 1) (k := 0) ⟨by decide, by decide⟩ rfl h0 (by omega) (by omega) dL_law_137 dL_law_138 dL_law_139 dL_law_140 dL_law_141 ?_
  refine l_VI (Yc := Y_X10_type) (ci := 10) (N := 12) (a := 0) (st := []) (As := [.inl (xs (i + ((1 : Nat) : Int)).toNat).toInt]) rfl dL_law_142 lm_L_13 mc_X10_type mi_X10_type ms_X10_type (Nat.le_of_ble_eq_true rfl) (fits_of (by decide) (by show c0 + 0 ≤ 600000; omega) (by show s0 + 0 ≤ 7302250; omega)) cf_10.2.1 (by decide) ⟨by decide, by have := hF.1; omega, St_0.2.2⟩ (CI_gx hg hF hP) rfl rfl ?_
  intro x1 n1 μ1 hq
  obtain ⟨hq1, hF1⟩ := hq
  refine l_aload_n (k := 1) (by decide) dL_law_145 rfl rfl ?_
  refine l_elem (j := 1) (k := 0) ⟨by decide, by decide⟩ rfl h0 (by omega) (by omega) dL_law_146 dL_law_147 dL_law_148 dL_law_149 dL_law_150 ?_
  refine l_VI (Yc := Y_X11_type) (ci := 11) (N := 28) (a := 399) (st := [.inl x1]) (As := [.inl (xs (i + ((1 : Nat) : Int)).toNat).toInt]) rfl dL_law_151 lm_L_17 mc_X11_type mi_X11_type ms_X11_type (Nat.le_of_ble_eq_true rfl) (fits_of (by decide) (by show c0 + 0 + 0 ≤ 600000; omega) (by show s0 + 0 + 0 ≤ 7302250; omega)) cf_11.2.1 (by decide) ⟨by decide, by have := hF1.1; omega, St_399.2.2⟩ (CI_gx hg hF1 hq1) rfl rfl ?_
  intro x2 n2 μ2 hq
  obtain ⟨⟨he, hI2⟩, hF2⟩ := hq
  refine l_same (tgt := 752) dL_law_154 rfl he (l_wide ?_ ?_ (w n2 μ2 hF2 hI2))
  · show c0 + 0 + 0 ≤ c0 + 150
    omega
  · show s0 + 0 + 0 ≤ s0 + 900
    omega
theorem ca_159 (hg : gx G = fun _ _ => True) (hF : FX n μ) (hI : INV n μ) (h0 : 0 ≤ i) (h1 : i + 6 ≤ Ls) (hLs : Ls ≤ 3072) (hc : c0 + 150 ≤ 600000) (hs : s0 + 900 ≤ 7302250) (w : ∀ (n' : Nat) (ν : Mem), FX n' ν → INV n' ν → Wl G b Ls xs (c0 + 150) (s0 + 900) n' ν 752 (lL i) []) : Wl G b Ls xs c0 s0 n μ 159 (lL i) [] := by
  have hP : Pr (setX G FX) Y_X10_clear Y_X11_clear [] n μ := P_clear rfl hI
  refine l_aload_n (k := 2) (by decide) dL_law_159 rfl rfl ?_
  refine l_VI (Yc := Y_X10_clear) (ci := 10) (N := 12) (a := 0) (st := []) (As := []) rfl dL_law_160 lm_L_18 mc_X10_clear mi_X10_clear ms_X10_clear (Nat.le_of_ble_eq_true rfl) (fits_of (by decide) (by show c0 + 0 ≤ 600000; omega) (by show s0 + 0 ≤ 7302250; omega)) cf_10.2.1 (by decide) ⟨by decide, by have := hF.1; omega, St_0.2.2⟩ (CI_gx hg hF hP) rfl rfl ?_
  intro x1 n1 μ1 hq
  obtain ⟨hq1, hF1⟩ := hq
  refine l_aload_n (k := 1) (by decide) dL_law_163 rfl rfl ?_
  refine l_VI (Yc := Y_X11_clear) (ci := 11) (N := 28) (a := 399) (st := [.inl x1]) (As := []) rfl dL_law_164 lm_L_22 mc_X11_clear mi_X11_clear ms_X11_clear (Nat.le_of_ble_eq_true rfl) (fits_of (by decide) (by show c0 + 0 + 0 ≤ 600000; omega) (by show s0 + 0 + 0 ≤ 7302250; omega)) cf_11.2.1 (by decide) ⟨by decide, by have := hF1.1; omega, St_399.2.2⟩ (CI_gx hg hF1 hq1) rfl rfl ?_
  intro x2 n2 μ2 hq
  obtain ⟨⟨he, hI2⟩, hF2⟩ := hq
  refine l_same (tgt := 752) dL_law_167 rfl he (l_wide ?_ ?_ (w n2 μ2 hF2 hI2))
  · show c0 + 0 + 0 ≤ c0 + 150
    omega
  · show s0 + 0 + 0 ≤ s0 + 900
    omega
theorem ca_172 (hg : gx G = fun _ _ => True) (hF : FX n μ) (hI : INV n μ) (h0 : 0 ≤ i) (h1 : i + 6 ≤ Ls) (hLs : Ls ≤ 3072) (hc : c0 + 150 ≤ 600000) (hs : s0 + 900 ≤ 7302250) (w : ∀ (n' : Nat) (ν : Mem), FX n' ν → INV n' ν → Wl G b Ls xs (c0 + 150) (s0 + 900) n' ν 752 (lL i) []) : Wl G b Ls xs c0 s0 n μ 172 (lL i) [] := by
  have hP : Pr (setX G FX) Y_X10_plan Y_X11_plan [] n μ := P_plan rfl hI
  refine l_aload_n (k := 2) (by decide) dL_law_172 rfl rfl ?_
  refine l_VI (Yc := Y_X10_plan) (ci := 10) (N := 12) (a := 0) (st := []) (As := []) rfl dL_law_173 lm_L_23 mc_X10_plan mi_X10_plan ms_X10_plan (Nat.le_of_ble_eq_true rfl) (fits_of (by decide) (by show c0 + 150 ≤ 600000; omega) (by show s0 + 900 ≤ 7302250; omega)) cf_10.2.1 (by decide) ⟨by decide, by have := hF.1; omega, St_0.2.2⟩ (CI_gx hg hF hP) rfl rfl ?_
  intro x1 n1 μ1 hq
  obtain ⟨hq1, hF1⟩ := hq
  refine l_aload_n (k := 1) (by decide) dL_law_176 rfl rfl ?_
  refine l_VI (Yc := Y_X11_plan) (ci := 11) (N := 28) (a := 399) (st := [.inl x1]) (As := []) rfl dL_law_177 lm_L_26 mc_X11_plan mi_X11_plan ms_X11_plan (Nat.le_of_ble_eq_true rfl) (fits_of (by decide) (by show c0 + 150 + 0 ≤ 600000; omega) (by show s0 + 900 + 0 ≤ 7302250; omega)) cf_11.2.1 (by decide) ⟨by decide, by have := hF1.1; omega, St_399.2.2⟩ (CI_gx hg hF1 hq1) rfl rfl ?_
  intro x2 n2 μ2 hq
  obtain ⟨⟨he, hI2⟩, hF2⟩ := hq
  refine l_same (tgt := 752) dL_law_180 rfl he (l_wide ?_ ?_ (w n2 μ2 hF2 hI2))
  · show c0 + 150 + 0 ≤ c0 + 150
    omega
  · show s0 + 900 + 0 ≤ s0 + 900
    omega
theorem ca_185 (hg : gx G = fun _ _ => True) (hF : FX n μ) (hI : INV n μ) (h0 : 0 ≤ i) (h1 : i + 6 ≤ Ls) (hLs : Ls ≤ 3072) (hc : c0 + 150 ≤ 600000) (hs : s0 + 900 ≤ 7302250) (w : ∀ (n' : Nat) (ν : Mem), FX n' ν → INV n' ν → Wl G b Ls xs (c0 + 150) (s0 + 900) n' ν 752 (lL i) []) : Wl G b Ls xs c0 s0 n μ 185 (lL i) [] := by
  have hP : Pr (setX G FX) Y_X10_contact Y_X11_contact [.inl (xs (i + ((1 : Nat) : Int)).toNat).toInt, .inl (xs (i + ((2 : Nat) : Int)).toNat).toInt] n μ := P_contact rfl hI
  refine l_aload_n (k := 2) (by decide) dL_law_185 rfl rfl ?_
  refine l_elem (j := 1) (k := 0) ⟨by decide, by decide⟩ rfl h0 (by omega) (by omega) dL_law_186 dL_law_187 dL_law_188 dL_law_189 dL_law_190 ?_
  refine l_elem (j := 2) (k := 0) ⟨by decide, by decide⟩ rfl h0 (by omega) (by omega) dL_law_191 dL_law_192 dL_law_193 dL_law_194 dL_law_195 ?_
  refine l_VI (Yc := Y_X10_contact) (ci := 10) (N := 12) (a := 0) (st := []) (As := [.inl (xs (i + ((1 : Nat) : Int)).toNat).toInt, .inl (xs (i + ((2 : Nat) : Int)).toNat).toInt]) rfl dL_law_196 lm_L_27 mc_X10_contact mi_X10_contact ms_X10_contact (Nat.le_of_ble_eq_true rfl) (fits_of (by decide) (by show c0 + 0 ≤ 600000; omega) (by show s0 + 0 ≤ 7302250; omega)) cf_10.2.1 (by decide) ⟨by decide, by have := hF.1; omega, St_0.2.2⟩ (CI_gx hg hF hP) rfl rfl ?_
  intro x1 n1 μ1 hq
  obtain ⟨hq1, hF1⟩ := hq
  refine l_aload_n (k := 1) (by decide) dL_law_199 rfl rfl ?_
  refine l_elem (j := 1) (k := 0) ⟨by decide, by decide⟩ rfl h0 (by omega) (by omega) dL_law_200 dL_law_201 dL_law_202 dL_law_203 dL_law_204 ?_
  refine l_elem (j := 2) (k := 0) ⟨by decide, by decide⟩ rfl h0 (by omega) (by omega) dL_law_205 dL_law_206 dL_law_207 dL_law_208 dL_law_209 ?_
  refine l_VI (Yc := Y_X11_contact) (ci := 11) (N := 28) (a := 399) (st := [.inl x1]) (As := [.inl (xs (i + ((1 : Nat) : Int)).toNat).toInt, .inl (xs (i + ((2 : Nat) : Int)).toNat).toInt]) rfl dL_law_210 lm_L_31 mc_X11_contact mi_X11_contact ms_X11_contact (Nat.le_of_ble_eq_true rfl) (fits_of (by decide) (by show c0 + 0 + 0 ≤ 600000; omega) (by show s0 + 0 + 0 ≤ 7302250; omega)) cf_11.2.1 (by decide) ⟨by decide, by have := hF1.1; omega, St_399.2.2⟩ (CI_gx hg hF1 hq1) rfl rfl ?_
  intro x2 n2 μ2 hq
  obtain ⟨⟨he, hI2⟩, hF2⟩ := hq
  refine l_same (tgt := 752) dL_law_213 rfl he (l_wide ?_ ?_ (w n2 μ2 hF2 hI2))
  · show c0 + 0 + 0 ≤ c0 + 150
    omega
  · show s0 + 0 + 0 ≤ s0 + 900
    omega
theorem ca_218 (hg : gx G = fun _ _ => True) (hF : FX n μ) (hI : INV n μ) (h0 : 0 ≤ i) (h1 : i + 6 ≤ Ls) (hLs : Ls ≤ 3072) (hc : c0 + 150 ≤ 600000) (hs : s0 + 900 ≤ 7302250) (w : ∀ (n' : Nat) (ν : Mem), FX n' ν → INV n' ν → Wl G b Ls xs (c0 + 150) (s0 + 900) n' ν 752 (lL i) []) : Wl G b Ls xs c0 s0 n μ 218 (lL i) [] := by
  have hP : Pr (setX G FX) Y_X10_sends Y_X11_sends [.inl (xs (i + ((1 : Nat) : Int)).toNat).toInt, .inl (xs (i + ((2 : Nat) : Int)).toNat).toInt, .inl (xs (i + ((3 : Nat) : Int)).toNat).toInt, .inl (xs (i + ((4 : Nat) : Int)).toNat).toInt, .inl (xs (i + ((5 : Nat) : Int)).toNat).toInt] n μ := P_sends rfl hI
  refine l_aload_n (k := 2) (by decide) dL_law_218 rfl rfl ?_
  refine l_elem (j := 1) (k := 0) ⟨by decide, by decide⟩ rfl h0 (by omega) (by omega) dL_law_219 dL_law_220 dL_law_221 dL_law_222 dL_law_223 ?_
  refine l_elem (j := 2) (k := 0) ⟨by decide, by decide⟩ rfl h0 (by omega) (by omega) dL_law_224 dL_law_225 dL_law_226 dL_law_227 dL_law_228 ?_
  refine l_elem (j := 3) (k := 0) ⟨by decide, by decide⟩ rfl h0 (by omega) (by omega) dL_law_229 dL_law_230 dL_law_231 dL_law_232 dL_law_233 ?_
  refine l_elem (j := 4) (k := 0) ⟨by decide, by decide⟩ rfl h0 (by omega) (by omega) dL_law_234 dL_law_235 dL_law_236 dL_law_237 dL_law_238 ?_
  refine l_elem (j := 5) (k := 0) ⟨by decide, by decide⟩ rfl h0 (by omega) (by omega) dL_law_239 dL_law_240 dL_law_241 dL_law_242 dL_law_243 ?_
  refine l_VI (Yc := Y_X10_sends) (ci := 10) (N := 12) (a := 0) (st := []) (As := [.inl (xs (i + ((1 : Nat) : Int)).toNat).toInt, .inl (xs (i + ((2 : Nat) : Int)).toNat).toInt, .inl (xs (i + ((3 : Nat) : Int)).toNat).toInt, .inl (xs (i + ((4 : Nat) : Int)).toNat).toInt, .inl (xs (i + ((5 : Nat) : Int)).toNat).toInt]) rfl dL_law_244 lm_L_32 mc_X10_sends mi_X10_sends ms_X10_sends (Nat.le_of_ble_eq_true rfl) (fits_of (by decide) (by show c0 + 0 ≤ 600000; omega) (by show s0 + 0 ≤ 7302250; omega)) cf_10.2.1 (by decide) ⟨by decide, by have := hF.1; omega, St_0.2.2⟩ (CI_gx hg hF hP) rfl rfl ?_
  intro x1 n1 μ1 hq
  obtain ⟨hq1, hF1⟩ := hq
  refine l_aload_n (k := 1) (by decide) dL_law_247 rfl rfl ?_
  refine l_elem (j := 1) (k := 0) ⟨by decide, by decide⟩ rfl h0 (by omega) (by omega) dL_law_248 dL_law_249 dL_law_250 dL_law_251 dL_law_252 ?_
  refine l_elem (j := 2) (k := 0) ⟨by decide, by decide⟩ rfl h0 (by omega) (by omega) dL_law_253 dL_law_254 dL_law_255 dL_law_256 dL_law_257 ?_
  refine l_elem (j := 3) (k := 0) ⟨by decide, by decide⟩ rfl h0 (by omega) (by omega) dL_law_258 dL_law_259 dL_law_260 dL_law_261 dL_law_262 ?_
  refine l_elem (j := 4) (k := 0) ⟨by decide, by decide⟩ rfl h0 (by omega) (by omega) dL_law_263 dL_law_264 dL_law_265 dL_law_266 dL_law_267 ?_
  refine l_elem (j := 5) (k := 0) ⟨by decide, by decide⟩ rfl h0 (by omega) (by omega) dL_law_268 dL_law_269 dL_law_270 dL_law_271 dL_law_272 ?_
  refine l_VI (Yc := Y_X11_sends) (ci := 11) (N := 28) (a := 399) (st := [.inl x1]) (As := [.inl (xs (i + ((1 : Nat) : Int)).toNat).toInt, .inl (xs (i + ((2 : Nat) : Int)).toNat).toInt, .inl (xs (i + ((3 : Nat) : Int)).toNat).toInt, .inl (xs (i + ((4 : Nat) : Int)).toNat).toInt, .inl (xs (i + ((5 : Nat) : Int)).toNat).toInt]) rfl dL_law_273 lm_L_36 mc_X11_sends mi_X11_sends ms_X11_sends (Nat.le_of_ble_eq_true rfl) (fits_of (by decide) (by show c0 + 0 + 0 ≤ 600000; omega) (by show s0 + 0 + 0 ≤ 7302250; omega)) cf_11.2.1 (by decide) ⟨by decide, by have := hF1.1; omega, St_399.2.2⟩ (CI_gx hg hF1 hq1) rfl rfl ?_
  intro x2 n2 μ2 hq
  obtain ⟨⟨he, hI2⟩, hF2⟩ := hq
  refine l_same (tgt := 752) dL_law_276 rfl he (l_wide ?_ ?_ (w n2 μ2 hF2 hI2))
  · show c0 + 0 + 0 ≤ c0 + 150
    omega
  · show s0 + 0 + 0 ≤ s0 + 900
    omega
theorem ca_281 (hg : gx G = fun _ _ => True) (hF : FX n μ) (hI : INV n μ) (h0 : 0 ≤ i) (h1 : i + 6 ≤ Ls) (hLs : Ls ≤ 3072) (hc : c0 + 150 ≤ 600000) (hs : s0 + 900 ≤ 7302250) (w : ∀ (n' : Nat) (ν : Mem), FX n' ν → INV n' ν → Wl G b Ls xs (c0 + 150) (s0 + 900) n' ν 752 (lL i) []) : Wl G b Ls xs c0 s0 n μ 281 (lL i) [] := by
  have hP : Pr (setX G FX) Y_X10_drops Y_X11_drops [.inl (xs (i + ((1 : Nat) : Int)).toNat).toInt] n μ := P_drops rfl hI
  refine l_aload_n (k := 2) (by decide) dL_law_281 rfl rfl ?_
  refine l_elem (j := 1) (k := 0) ⟨by decide, by decide⟩ rfl h0 (by omega) (by omega) dL_law_282 dL_law_283 dL_law_284 dL_law_285 dL_law_286 ?_
  refine l_VI (Yc := Y_X10_drops) (ci := 10) (N := 12) (a := 0) (st := []) (As := [.inl (xs (i + ((1 : Nat) : Int)).toNat).toInt]) rfl dL_law_287 lm_L_37 mc_X10_drops mi_X10_drops ms_X10_drops (Nat.le_of_ble_eq_true rfl) (fits_of (by decide) (by show c0 + 0 ≤ 600000; omega) (by show s0 + 0 ≤ 7302250; omega)) cf_10.2.1 (by decide) ⟨by decide, by have := hF.1; omega, St_0.2.2⟩ (CI_gx hg hF hP) rfl rfl ?_
  intro x1 n1 μ1 hq
  obtain ⟨hq1, hF1⟩ := hq
  refine l_aload_n (k := 1) (by decide) dL_law_290 rfl rfl ?_
  refine l_elem (j := 1) (k := 0) ⟨by decide, by decide⟩ rfl h0 (by omega) (by omega) dL_law_291 dL_law_292 dL_law_293 dL_law_294 dL_law_295 ?_
  refine l_VI (Yc := Y_X11_drops) (ci := 11) (N := 28) (a := 399) (st := [.inl x1]) (As := [.inl (xs (i + ((1 : Nat) : Int)).toNat).toInt]) rfl dL_law_296 lm_L_40 mc_X11_drops mi_X11_drops ms_X11_drops (Nat.le_of_ble_eq_true rfl) (fits_of (by decide) (by show c0 + 0 + 0 ≤ 600000; omega) (by show s0 + 0 + 0 ≤ 7302250; omega)) cf_11.2.1 (by decide) ⟨by decide, by have := hF1.1; omega, St_399.2.2⟩ (CI_gx hg hF1 hq1) rfl rfl ?_
  intro x2 n2 μ2 hq
  obtain ⟨⟨he, hI2⟩, hF2⟩ := hq
  refine l_same (tgt := 752) dL_law_299 rfl he (l_wide ?_ ?_ (w n2 μ2 hF2 hI2))
  · show c0 + 0 + 0 ≤ c0 + 150
    omega
  · show s0 + 0 + 0 ≤ s0 + 900
    omega
end CasesL
