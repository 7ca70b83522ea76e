/-! ===== the law's put and choose (by program: wip/gen30/lawdec.py) ===== -/
-- L_put
theorem ckL_put : k_Sok yL_put cL_put 9 (some .int) 5 := ⟨kwk_L_put, kws_L_put, kwn_L, by decide, by decide +kernel⟩
abbrev rmL_put : Room := { frames := 4, cells := 0, slots := 0, locals := 136 }
abbrev YL_put : k_Y := (rmL_put, cL_put, 9, RL, (some .int))
noncomputable def fL_put_c251 (Ls : Nat) (xs : Nat → Int32) (kh96 : k_S × k_S → Int32 → Int32 → Int32 → Int32 → Option (Int32 × (k_S × k_S))) (s : k_S × k_S) (l2 l5 l6 l7 t1 t2 t3 : Int32) : Option (Int32 × (k_S × k_S)) := k_ob (fX6_put s.1 (t1) (t2) (t3)) fun r1 τ2 => k_bn (τ2, s.2) fun s3 => (if r1 = (nI 1) then k_bn (l6 + (nI 1)) fun v4 => k_gd (((nI 12) + l7)) 34 (k_ob (fX6_put s3.1 ((nI 0)) (l6) (((nI 48) + s3.2.2 0 (Int32.toNatClampNeg (((nI 12) + l7)))))) fun r5 τ6 => k_bn (τ6, s3.2) fun s7 => (if r5 = (nI 1) then k_bn (v4 + (nI 1)) fun v8 => k_gd (((nI 22) + l7)) 34 (k_ob (fX6_put s7.1 ((nI 0)) (v4) (((nI 48) + (s7.2.2 0 (Int32.toNatClampNeg (((nI 22) + l7))) / (nI 10))))) fun r9 τ10 => k_bn (τ10, s7.2) fun s11 => (if r9 = (nI 1) then k_bn (v8 + (nI 1)) fun v12 => k_gd (((nI 22) + l7)) 34 (k_ob (fX6_put s11.1 ((nI 0)) (v8) (((nI 48) + (s11.2.2 0 (Int32.toNatClampNeg (((nI 22) + l7))) - s11.2.2 0 (Int32.toNatClampNeg (((nI 22) + l7))) / (nI 10) * (nI 10))))) fun r13 τ14 => k_bn (τ14, s11.2) fun s15 => (if r13 = (nI 1) then k_bn (l7 + (nI 1)) fun v16 => kh96 s15 l2 l5 v12 v16 else some ((k_ng 99), s15))) else some ((k_ng 99), s11))) else some ((k_ng 99), s7))) else some ((k_ng 99), s3))
set_option maxRecDepth 100000 in
set_option maxHeartbeats 4000000 in
theorem kL_put_c251 {X : k_C} {q : Nat → Nat} {b Ls : Nat} {xs : Nat → Int32} (hX : k_Sc X b Ls xs) (kh96 : k_S × k_S → Int32 → Int32 → Int32 → Int32 → Option (Int32 × (k_S × k_S))) (hk96 : ∀ (s : k_S × k_S) (l2 l5 l6 l7 : Int32), KO X YL_put (cV 3 (k_I X) q) 0 0 (k_Q k_ei X (cV 3 (k_I X) q)) 96 [some (.ref (q 0)), some (.ref (b)), some (.int l2), none, some (.ref (q 30)), some (.int l5), some (.int l6), some (.int l7), none] [] s (kh96 s l2 l5 l6 l7)) (s : k_S × k_S) (l2 l5 l6 l7 t1 t2 t3 : Int32) : KO X YL_put (cV 3 (k_I X) q) 0 0 (k_Q k_ei X (cV 3 (k_I X) q)) 251 [some (.ref (q 0)), some (.ref (b)), some (.int l2), none, some (.ref (q 30)), some (.int l5), some (.int l6), some (.int l7), none] [.int t3, .int t2, .int t1, .ref (q 0)] s (fL_put_c251 Ls xs kh96 s l2 l5 l6 l7 t1 t2 t3) := by
  unfold fL_put_c251
  refine k_LTi3 (pc := 251) ckX6_put rfl kwm_L_25 ⟨rfl, rfl⟩ ⟨Nat.le_of_ble_eq_true rfl, Nat.le_of_ble_eq_true rfl⟩ ⟨Nat.zero_le _, Nat.zero_le _⟩ (Nat.le_of_ble_eq_true rfl) dL_put_251 (fun _ _ hf => kX6_put hf) (fun r1 s3 => ?_)
  refine k_iconst (pc := 254) (v := (nI 1)) dL_put_254 (by decide) ?_
  refine k_icmp_ne (pc := 255) 339 dL_put_255 (by decide) ?_ ?_
  · refine k_bipush (pc := 339) (v := (k_ng 99)) dL_put_339 (by decide) ?_
    exact k_ireturn (pc := 341) rfl dL_put_341
  · refine k_aload_n (pc := 258) dL_put_258 rfl ?_
    refine k_iconst (pc := 259) (v := (nI 0)) dL_put_259 (by decide) ?_
    refine k_iload (pc := 260) dL_put_260 rfl ?_
    refine k_iinc6 (pc := 262) (w := (nI 1)) dL_put_262 rfl (by decide) (Nat.le_of_ble_eq_true rfl) (fun v4 => ?_)
    refine k_bipush (pc := 265) (v := (nI 48)) dL_put_265 (by decide) ?_
    refine k_aload (pc := 267) dL_put_267 rfl ?_
    refine k_bipush (pc := 269) (v := (nI 12)) dL_put_269 (by decide) ?_
    refine k_iload (pc := 271) dL_put_271 rfl ?_
    refine k_iadd (pc := 273) dL_put_273 ?_
    refine k_lV3_0 (pc := 274) dL_put_274 ?_
    refine k_iadd (pc := 275) dL_put_275 ?_
    refine k_LTi3 (pc := 276) ckX6_put rfl kwm_L_25 ⟨rfl, rfl⟩ ⟨Nat.le_of_ble_eq_true rfl, Nat.le_of_ble_eq_true rfl⟩ ⟨Nat.zero_le _, Nat.zero_le _⟩ (Nat.le_of_ble_eq_true rfl) dL_put_276 (fun _ _ hf => kX6_put hf) (fun r5 s7 => ?_)
    refine k_iconst (pc := 279) (v := (nI 1)) dL_put_279 (by decide) ?_
    refine k_icmp_ne (pc := 280) 339 dL_put_280 (by decide) ?_ ?_
    · refine k_bipush (pc := 339) (v := (k_ng 99)) dL_put_339 (by decide) ?_
      exact k_ireturn (pc := 341) rfl dL_put_341
    · refine k_aload_n (pc := 283) dL_put_283 rfl ?_
      refine k_iconst (pc := 284) (v := (nI 0)) dL_put_284 (by decide) ?_
      refine k_iload (pc := 285) dL_put_285 rfl ?_
      refine k_iinc6 (pc := 287) (w := (nI 1)) dL_put_287 rfl (by decide) (Nat.le_of_ble_eq_true rfl) (fun v8 => ?_)
      refine k_bipush (pc := 290) (v := (nI 48)) dL_put_290 (by decide) ?_
      refine k_aload (pc := 292) dL_put_292 rfl ?_
      refine k_bipush (pc := 294) (v := (nI 22)) dL_put_294 (by decide) ?_
      refine k_iload (pc := 296) dL_put_296 rfl ?_
      refine k_iadd (pc := 298) dL_put_298 ?_
      refine k_lV3_0 (pc := 299) dL_put_299 ?_
      refine k_bipush (pc := 300) (v := (nI 10)) dL_put_300 (by decide) ?_
      refine k_idiv (pc := 302) dL_put_302 (by decide) ?_
      refine k_iadd (pc := 303) dL_put_303 ?_
      refine k_LTi3 (pc := 304) ckX6_put rfl kwm_L_25 ⟨rfl, rfl⟩ ⟨Nat.le_of_ble_eq_true rfl, Nat.le_of_ble_eq_true rfl⟩ ⟨Nat.zero_le _, Nat.zero_le _⟩ (Nat.le_of_ble_eq_true rfl) dL_put_304 (fun _ _ hf => kX6_put hf) (fun r9 s11 => ?_)
      refine k_iconst (pc := 307) (v := (nI 1)) dL_put_307 (by decide) ?_
      refine k_icmp_ne (pc := 308) 339 dL_put_308 (by decide) ?_ ?_
      · refine k_bipush (pc := 339) (v := (k_ng 99)) dL_put_339 (by decide) ?_
        exact k_ireturn (pc := 341) rfl dL_put_341
      · refine k_aload_n (pc := 311) dL_put_311 rfl ?_
        refine k_iconst (pc := 312) (v := (nI 0)) dL_put_312 (by decide) ?_
        refine k_iload (pc := 313) dL_put_313 rfl ?_
        refine k_iinc6 (pc := 315) (w := (nI 1)) dL_put_315 rfl (by decide) (Nat.le_of_ble_eq_true rfl) (fun v12 => ?_)
        refine k_bipush (pc := 318) (v := (nI 48)) dL_put_318 (by decide) ?_
        refine k_aload (pc := 320) dL_put_320 rfl ?_
        refine k_bipush (pc := 322) (v := (nI 22)) dL_put_322 (by decide) ?_
        refine k_iload (pc := 324) dL_put_324 rfl ?_
        refine k_iadd (pc := 326) dL_put_326 ?_
        refine k_lV3_0 (pc := 327) dL_put_327 ?_
        refine k_bipush (pc := 328) (v := (nI 10)) dL_put_328 (by decide) ?_
        refine k_irem (pc := 330) dL_put_330 (by decide) ?_
        refine k_iadd (pc := 331) dL_put_331 ?_
        refine k_LTi3 (pc := 332) ckX6_put rfl kwm_L_25 ⟨rfl, rfl⟩ ⟨Nat.le_of_ble_eq_true rfl, Nat.le_of_ble_eq_true rfl⟩ ⟨Nat.zero_le _, Nat.zero_le _⟩ (Nat.le_of_ble_eq_true rfl) dL_put_332 (fun _ _ hf => kX6_put hf) (fun r13 s15 => ?_)
        refine k_iconst (pc := 335) (v := (nI 1)) dL_put_335 (by decide) ?_
        refine k_icmp_eq (pc := 336) 342 dL_put_336 (by decide) ?_ ?_
        · refine k_iinc7 (pc := 342) (w := (nI 1)) dL_put_342 rfl (by decide) (Nat.le_of_ble_eq_true rfl) (fun v16 => ?_)
          refine k_goto (pc := 345) 96 dL_put_345 (by decide) ?_
          exact hk96 s15 l2 l5 v12 v16
        · refine k_bipush (pc := 339) (v := (k_ng 99)) dL_put_339 (by decide) ?_
          exact k_ireturn (pc := 341) rfl dL_put_341
noncomputable def fL_put_c195 (Ls : Nat) (xs : Nat → Int32) (kh96 : k_S × k_S → Int32 → Int32 → Int32 → Int32 → Option (Int32 × (k_S × k_S))) (s : k_S × k_S) (l2 l5 l6 l7 : Int32) : Option (Int32 × (k_S × k_S)) := k_bn (l6 + (nI 1)) fun v1 => k_ob (fX6_put s.1 ((nI 0)) (l6) ((nI 59))) fun r2 τ3 => k_bn (τ3, s.2) fun s4 => (if r2 = (nI 1) then k_bn (v1 + (nI 1)) fun v5 => k_gd (((nI 2) + l7)) 34 ((if s4.2.2 0 (Int32.toNatClampNeg (((nI 2) + l7))) = 0 then fL_put_c251 Ls xs kh96 s4 l2 l5 v5 l7 ((nI 0)) v1 ((nI 116)) else k_gd (((nI 2) + l7)) 34 ((if s4.2.2 0 (Int32.toNatClampNeg (((nI 2) + l7))) = (nI 1) then fL_put_c251 Ls xs kh96 s4 l2 l5 v5 l7 ((nI 0)) v1 ((nI 103)) else fL_put_c251 Ls xs kh96 s4 l2 l5 v5 l7 ((nI 0)) v1 ((nI 119)))))) else some ((k_ng 99), s4))
set_option maxRecDepth 100000 in
set_option maxHeartbeats 4000000 in
theorem kL_put_c195 {X : k_C} {q : Nat → Nat} {b Ls : Nat} {xs : Nat → Int32} (hX : k_Sc X b Ls xs) (kh96 : k_S × k_S → Int32 → Int32 → Int32 → Int32 → Option (Int32 × (k_S × k_S))) (hk96 : ∀ (s : k_S × k_S) (l2 l5 l6 l7 : Int32), KO X YL_put (cV 3 (k_I X) q) 0 0 (k_Q k_ei X (cV 3 (k_I X) q)) 96 [some (.ref (q 0)), some (.ref (b)), some (.int l2), none, some (.ref (q 30)), some (.int l5), some (.int l6), some (.int l7), none] [] s (kh96 s l2 l5 l6 l7)) (s : k_S × k_S) (l2 l5 l6 l7 : Int32) : KO X YL_put (cV 3 (k_I X) q) 0 0 (k_Q k_ei X (cV 3 (k_I X) q)) 195 [some (.ref (q 0)), some (.ref (b)), some (.int l2), none, some (.ref (q 30)), some (.int l5), some (.int l6), some (.int l7), none] [] s (fL_put_c195 Ls xs kh96 s l2 l5 l6 l7) := by
  unfold fL_put_c195
  refine k_aload_n (pc := 195) dL_put_195 rfl ?_
  refine k_iconst (pc := 196) (v := (nI 0)) dL_put_196 (by decide) ?_
  refine k_iload (pc := 197) dL_put_197 rfl ?_
  refine k_iinc6 (pc := 199) (w := (nI 1)) dL_put_199 rfl (by decide) (Nat.le_of_ble_eq_true rfl) (fun v1 => ?_)
  refine k_bipush (pc := 202) (v := (nI 59)) dL_put_202 (by decide) ?_
  refine k_LTi3 (pc := 204) ckX6_put rfl kwm_L_25 ⟨rfl, rfl⟩ ⟨Nat.le_of_ble_eq_true rfl, Nat.le_of_ble_eq_true rfl⟩ ⟨Nat.zero_le _, Nat.zero_le _⟩ (Nat.le_of_ble_eq_true rfl) dL_put_204 (fun _ _ hf => kX6_put hf) (fun r2 s4 => ?_)
  refine k_iconst (pc := 207) (v := (nI 1)) dL_put_207 (by decide) ?_
  refine k_icmp_ne (pc := 208) 339 dL_put_208 (by decide) ?_ ?_
  · refine k_bipush (pc := 339) (v := (k_ng 99)) dL_put_339 (by decide) ?_
    exact k_ireturn (pc := 341) rfl dL_put_341
  · refine k_aload_n (pc := 211) dL_put_211 rfl ?_
    refine k_iconst (pc := 212) (v := (nI 0)) dL_put_212 (by decide) ?_
    refine k_iload (pc := 213) dL_put_213 rfl ?_
    refine k_iinc6 (pc := 215) (w := (nI 1)) dL_put_215 rfl (by decide) (Nat.le_of_ble_eq_true rfl) (fun v5 => ?_)
    refine k_aload (pc := 218) dL_put_218 rfl ?_
    refine k_iconst (pc := 220) (v := (nI 2)) dL_put_220 (by decide) ?_
    refine k_iload (pc := 221) dL_put_221 rfl ?_
    refine k_iadd (pc := 223) dL_put_223 ?_
    refine k_lV3_0 (pc := 224) dL_put_224 ?_
    refine k_if_ne (pc := 225) 233 dL_put_225 (by decide) ?_ ?_
    · refine k_aload (pc := 233) dL_put_233 rfl ?_
      refine k_iconst (pc := 235) (v := (nI 2)) dL_put_235 (by decide) ?_
      refine k_iload (pc := 236) dL_put_236 rfl ?_
      refine k_iadd (pc := 238) dL_put_238 ?_
      refine k_lV3_0 (pc := 239) dL_put_239 ?_
      refine k_iconst (pc := 240) (v := (nI 1)) dL_put_240 (by decide) ?_
      refine k_icmp_ne (pc := 241) 249 dL_put_241 (by decide) ?_ ?_
      · refine k_bipush (pc := 249) (v := (nI 119)) dL_put_249 (by decide) ?_
        exact kL_put_c251 hX kh96 hk96 s4 l2 l5 v5 l7 ((nI 0)) v1 ((nI 119))
      · refine k_bipush (pc := 244) (v := (nI 103)) dL_put_244 (by decide) ?_
        refine k_goto (pc := 246) 251 dL_put_246 (by decide) ?_
        exact kL_put_c251 hX kh96 hk96 s4 l2 l5 v5 l7 ((nI 0)) v1 ((nI 103))
    · refine k_bipush (pc := 228) (v := (nI 116)) dL_put_228 (by decide) ?_
      refine k_goto (pc := 230) 251 dL_put_230 (by decide) ?_
      exact kL_put_c251 hX kh96 hk96 s4 l2 l5 v5 l7 ((nI 0)) v1 ((nI 116))
noncomputable def fL_put_c190 (Ls : Nat) (xs : Nat → Int32) (kh96 : k_S × k_S → Int32 → Int32 → Int32 → Int32 → Option (Int32 × (k_S × k_S))) (s : k_S × k_S) (l2 l5 l6 l7 t1 t2 t3 t4 : Int32) : Option (Int32 × (k_S × k_S)) := k_oq (fL_some (t3) (t4)) fun r1 => k_gd (t1) 34 (k_bn (k_sV s 0 (t1) ((t2 + r1))) fun s2 => fL_put_c195 Ls xs kh96 s2 l2 l5 l6 l7)
set_option maxRecDepth 100000 in
set_option maxHeartbeats 4000000 in
theorem kL_put_c190 {X : k_C} {q : Nat → Nat} {b Ls : Nat} {xs : Nat → Int32} (hX : k_Sc X b Ls xs) (kh96 : k_S × k_S → Int32 → Int32 → Int32 → Int32 → Option (Int32 × (k_S × k_S))) (hk96 : ∀ (s : k_S × k_S) (l2 l5 l6 l7 : Int32), KO X YL_put (cV 3 (k_I X) q) 0 0 (k_Q k_ei X (cV 3 (k_I X) q)) 96 [some (.ref (q 0)), some (.ref (b)), some (.int l2), none, some (.ref (q 30)), some (.int l5), some (.int l6), some (.int l7), none] [] s (kh96 s l2 l5 l6 l7)) (s : k_S × k_S) (l2 l5 l6 l7 t1 t2 t3 t4 : Int32) : KO X YL_put (cV 3 (k_I X) q) 0 0 (k_Q k_ei X (cV 3 (k_I X) q)) 190 [some (.ref (q 0)), some (.ref (b)), some (.int l2), none, some (.ref (q 30)), some (.int l5), some (.int l6), some (.int l7), none] [.int t4, .int t3, .int t2, .int t1, .ref (q 30)] s (fL_put_c190 Ls xs kh96 s l2 l5 l6 l7 t1 t2 t3 t4) := by
  unfold fL_put_c190
  refine k_cq (pc := 190) (n := 2) (W0 := ([] : va_W)) (As := [.int (t3), .int (t4)]) [] (by decide) rfl ckL_some kwm_L_15 rfl ⟨rfl, rfl⟩ ⟨Nat.le_of_ble_eq_true rfl, Nat.le_of_ble_eq_true rfl⟩ ⟨Nat.zero_le _, Nat.zero_le _⟩ (Nat.le_of_ble_eq_true rfl) dL_put_190 rfl (fun _ _ hf => kL_some hf) (fun r1 => ?_)
  refine k_iadd (pc := 193) dL_put_193 ?_
  refine k_sV3_0 (pc := 194) dL_put_194 (fun s2 => ?_)
  exact kL_put_c195 hX kh96 hk96 s2 l2 l5 l6 l7
noncomputable def fL_put_c348 (Ls : Nat) (xs : Nat → Int32) (s : k_S × k_S) (l6 : Int32) : Option (Int32 × (k_S × k_S)) := some (l6, s)
set_option maxRecDepth 100000 in
set_option maxHeartbeats 4000000 in
theorem kL_put_c348 {X : k_C} {q : Nat → Nat} {b Ls : Nat} {xs : Nat → Int32} (hX : k_Sc X b Ls xs) (s : k_S × k_S) (l6 : Int32) : KO X YL_put (cV 3 (k_I X) q) 0 0 (k_Q k_ei X (cV 3 (k_I X) q)) 348 [some (.ref (q 0)), some (.ref (b)), none, none, some (.ref (q 30)), none, some (.int l6), none, none] [] s (fL_put_c348 Ls xs s l6) := by
  unfold fL_put_c348
  refine k_iload (pc := 348) dL_put_348 rfl ?_
  exact k_ireturn (pc := 350) rfl dL_put_350
noncomputable def fL_put_c96 (Ls : Nat) (xs : Nat → Int32) : Nat → k_S × k_S → Int32 → Int32 → Int32 → Int32 → Option (Int32 × (k_S × k_S))
  | 0, _, _, _, _, _ => none
  | n + 1, s, l2, l5, l6, l7 => k_gd ((nI 1)) 34 ((if l7 < s.2.2 0 (Int32.toNatClampNeg ((nI 1))) then k_oq (fL_cell Ls xs (((l2 + (nI 1)) + (l7 - l7 / (nI 4) * (nI 4))))) fun r1 => k_bn (((r1 : Int32) >>> ((((l7 / (nI 4)) * (nI 9)) : Int32) &&& 31))) fun v2 => k_oq (fL_some (v2) ((nI 3))) fun r3 => k_gd (((nI 2) + l7)) 34 (k_bn (k_sV s 0 (((nI 2) + l7)) (r3)) fun s4 => k_gd ((nI 0)) 34 (k_oq (fL_some (((v2 : Int32) >>> (((nI 1) : Int32) &&& 31))) (s4.2.2 0 (Int32.toNatClampNeg ((nI 0))))) fun r5 => k_gd (((nI 12) + l7)) 34 (k_bn (k_sV s4 0 (((nI 12) + l7)) (r5)) fun s6 => k_oq (fL_some (((l5 : Int32) >>> (((nI 7) : Int32) &&& 31))) ((nI 2))) fun r7 => (if r7 = 0 then fL_put_c190 Ls xs (fL_put_c96 Ls xs n) s6 l2 l5 l6 l7 (((nI 22) + l7)) ((nI 1)) (((v2 : Int32) >>> (((nI 3) : Int32) &&& 31))) ((nI 99)) else fL_put_c190 Ls xs (fL_put_c96 Ls xs n) s6 l2 l5 l6 l7 (((nI 22) + l7)) ((nI 1)) (((v2 : Int32) >>> (((nI 3) : Int32) &&& 31))) ((nI 25)))))) else fL_put_c348 Ls xs s l6))
theorem fL_put_c96_s (Ls : Nat) (xs : Nat → Int32) (n : Nat) (s : k_S × k_S) (l2 l5 l6 l7 : Int32) : fL_put_c96 Ls xs (n + 1) s l2 l5 l6 l7 = k_gd ((nI 1)) 34 ((if l7 < s.2.2 0 (Int32.toNatClampNeg ((nI 1))) then k_oq (fL_cell Ls xs (((l2 + (nI 1)) + (l7 - l7 / (nI 4) * (nI 4))))) fun r1 => k_bn (((r1 : Int32) >>> ((((l7 / (nI 4)) * (nI 9)) : Int32) &&& 31))) fun v2 => k_oq (fL_some (v2) ((nI 3))) fun r3 => k_gd (((nI 2) + l7)) 34 (k_bn (k_sV s 0 (((nI 2) + l7)) (r3)) fun s4 => k_gd ((nI 0)) 34 (k_oq (fL_some (((v2 : Int32) >>> (((nI 1) : Int32) &&& 31))) (s4.2.2 0 (Int32.toNatClampNeg ((nI 0))))) fun r5 => k_gd (((nI 12) + l7)) 34 (k_bn (k_sV s4 0 (((nI 12) + l7)) (r5)) fun s6 => k_oq (fL_some (((l5 : Int32) >>> (((nI 7) : Int32) &&& 31))) ((nI 2))) fun r7 => (if r7 = 0 then fL_put_c190 Ls xs (fL_put_c96 Ls xs n) s6 l2 l5 l6 l7 (((nI 22) + l7)) ((nI 1)) (((v2 : Int32) >>> (((nI 3) : Int32) &&& 31))) ((nI 99)) else fL_put_c190 Ls xs (fL_put_c96 Ls xs n) s6 l2 l5 l6 l7 (((nI 22) + l7)) ((nI 1)) (((v2 : Int32) >>> (((nI 3) : Int32) &&& 31))) ((nI 25)))))) else fL_put_c348 Ls xs s l6)) := rfl
set_option maxRecDepth 100000 in
set_option maxHeartbeats 4000000 in
theorem kL_put_c96 {X : k_C} {q : Nat → Nat} {b Ls : Nat} {xs : Nat → Int32} (hX : k_Sc X b Ls xs) : ∀ (n : Nat) (s : k_S × k_S) (l2 l5 l6 l7 : Int32), KO X YL_put (cV 3 (k_I X) q) 0 0 (k_Q k_ei X (cV 3 (k_I X) q)) 96 [some (.ref (q 0)), some (.ref (b)), some (.int l2), none, some (.ref (q 30)), some (.int l5), some (.int l6), some (.int l7), none] [] s (fL_put_c96 Ls xs n s l2 l5 l6 l7) := by
  intro n
  induction n with
  | zero => intros; exact KO.nil
  | succ n ih =>
    intro s l2 l5 l6 l7
    rw [fL_put_c96_s]
    refine k_iload (pc := 96) dL_put_96 rfl ?_
    refine k_aload (pc := 98) dL_put_98 rfl ?_
    refine k_iconst (pc := 100) (v := (nI 1)) dL_put_100 (by decide) ?_
    refine k_lV3_0 (pc := 101) dL_put_101 ?_
    refine k_icmp_ge (pc := 102) 348 dL_put_102 (by decide) ?_ ?_
    · refine k_fg2 ?_
      refine k_fg5 ?_
      refine k_fg7 ?_
      exact kL_put_c348 hX s l6
    · refine k_aload_n (pc := 105) dL_put_105 rfl ?_
      refine k_iload_n (pc := 106) dL_put_106 rfl ?_
      refine k_iconst (pc := 107) (v := (nI 1)) dL_put_107 (by decide) ?_
      refine k_iadd (pc := 108) dL_put_108 ?_
      refine k_iload (pc := 109) dL_put_109 rfl ?_
      refine k_iconst (pc := 111) (v := (nI 4)) dL_put_111 (by decide) ?_
      refine k_irem (pc := 112) dL_put_112 (by decide) ?_
      refine k_iadd (pc := 113) dL_put_113 ?_
      refine k_cqx (pc := 114) (n := 2) (As := [.ref (b), .int (((l2 + (nI 1)) + (l7 - l7 / (nI 4) * (nI 4))))]) hX ckL_cell kwm_L_9 rfl ⟨rfl, rfl⟩ ⟨Nat.le_of_ble_eq_true rfl, Nat.le_of_ble_eq_true rfl⟩ ⟨Nat.zero_le _, Nat.zero_le _⟩ (Nat.le_of_ble_eq_true rfl) dL_put_114 rfl (fun _ _ hf => kL_cell hf) (fun r1 => ?_)
      refine k_iload (pc := 117) dL_put_117 rfl ?_
      refine k_iconst (pc := 119) (v := (nI 4)) dL_put_119 (by decide) ?_
      refine k_idiv (pc := 120) dL_put_120 (by decide) ?_
      refine k_bipush (pc := 121) (v := (nI 9)) dL_put_121 (by decide) ?_
      refine k_imul (pc := 123) dL_put_123 ?_
      refine k_ishr (pc := 124) dL_put_124 ?_
      refine k_ist8 (pc := 125) dL_put_125 (Nat.le_of_ble_eq_true rfl) (fun v2 => ?_)
      refine k_aload (pc := 127) dL_put_127 rfl ?_
      refine k_iconst (pc := 129) (v := (nI 2)) dL_put_129 (by decide) ?_
      refine k_iload (pc := 130) dL_put_130 rfl ?_
      refine k_iadd (pc := 132) dL_put_132 ?_
      refine k_iload (pc := 133) dL_put_133 rfl ?_
      refine k_iconst (pc := 135) (v := (nI 3)) dL_put_135 (by decide) ?_
      refine k_cq (pc := 136) (n := 2) (W0 := ([] : va_W)) (As := [.int (v2), .int ((nI 3))]) [] (by decide) rfl ckL_some kwm_L_15 rfl ⟨rfl, rfl⟩ ⟨Nat.le_of_ble_eq_true rfl, Nat.le_of_ble_eq_true rfl⟩ ⟨Nat.zero_le _, Nat.zero_le _⟩ (Nat.le_of_ble_eq_true rfl) dL_put_136 rfl (fun _ _ hf => kL_some hf) (fun r3 => ?_)
      refine k_sV3_0 (pc := 139) dL_put_139 (fun s4 => ?_)
      refine k_aload (pc := 140) dL_put_140 rfl ?_
      refine k_bipush (pc := 142) (v := (nI 12)) dL_put_142 (by decide) ?_
      refine k_iload (pc := 144) dL_put_144 rfl ?_
      refine k_iadd (pc := 146) dL_put_146 ?_
      refine k_iload (pc := 147) dL_put_147 rfl ?_
      refine k_iconst (pc := 149) (v := (nI 1)) dL_put_149 (by decide) ?_
      refine k_ishr (pc := 150) dL_put_150 ?_
      refine k_aload (pc := 151) dL_put_151 rfl ?_
      refine k_iconst (pc := 153) (v := (nI 0)) dL_put_153 (by decide) ?_
      refine k_lV3_0 (pc := 154) dL_put_154 ?_
      refine k_cq (pc := 155) (n := 2) (W0 := ([] : va_W)) (As := [.int (((v2 : Int32) >>> (((nI 1) : Int32) &&& 31))), .int (s4.2.2 0 (Int32.toNatClampNeg ((nI 0))))]) [] (by decide) rfl ckL_some kwm_L_15 rfl ⟨rfl, rfl⟩ ⟨Nat.le_of_ble_eq_true rfl, Nat.le_of_ble_eq_true rfl⟩ ⟨Nat.zero_le _, Nat.zero_le _⟩ (Nat.le_of_ble_eq_true rfl) dL_put_155 rfl (fun _ _ hf => kL_some hf) (fun r5 => ?_)
      refine k_sV3_0 (pc := 158) dL_put_158 (fun s6 => ?_)
      refine k_aload (pc := 159) dL_put_159 rfl ?_
      refine k_bipush (pc := 161) (v := (nI 22)) dL_put_161 (by decide) ?_
      refine k_iload (pc := 163) dL_put_163 rfl ?_
      refine k_iadd (pc := 165) dL_put_165 ?_
      refine k_iconst (pc := 166) (v := (nI 1)) dL_put_166 (by decide) ?_
      refine k_iload (pc := 167) dL_put_167 rfl ?_
      refine k_iconst (pc := 169) (v := (nI 3)) dL_put_169 (by decide) ?_
      refine k_ishr (pc := 170) dL_put_170 ?_
      refine k_iload (pc := 171) dL_put_171 rfl ?_
      refine k_bipush (pc := 173) (v := (nI 7)) dL_put_173 (by decide) ?_
      refine k_ishr (pc := 175) dL_put_175 ?_
      refine k_iconst (pc := 176) (v := (nI 2)) dL_put_176 (by decide) ?_
      refine k_cq (pc := 177) (n := 2) (W0 := ([] : va_W)) (As := [.int (((l5 : Int32) >>> (((nI 7) : Int32) &&& 31))), .int ((nI 2))]) [] (by decide) rfl ckL_some kwm_L_15 rfl ⟨rfl, rfl⟩ ⟨Nat.le_of_ble_eq_true rfl, Nat.le_of_ble_eq_true rfl⟩ ⟨Nat.zero_le _, Nat.zero_le _⟩ (Nat.le_of_ble_eq_true rfl) dL_put_177 rfl (fun _ _ hf => kL_some hf) (fun r7 => ?_)
      refine k_if_ne (pc := 180) 188 dL_put_180 (by decide) ?_ ?_
      · refine k_bipush (pc := 188) (v := (nI 25)) dL_put_188 (by decide) ?_
        refine k_fg8 ?_
        exact kL_put_c190 hX (fL_put_c96 Ls xs n) ih s6 l2 l5 l6 l7 (((nI 22) + l7)) ((nI 1)) (((v2 : Int32) >>> (((nI 3) : Int32) &&& 31))) ((nI 25))
      · refine k_bipush (pc := 183) (v := (nI 99)) dL_put_183 (by decide) ?_
        refine k_goto (pc := 185) 190 dL_put_185 (by decide) ?_
        refine k_fg8 ?_
        exact kL_put_c190 hX (fL_put_c96 Ls xs n) ih s6 l2 l5 l6 l7 (((nI 22) + l7)) ((nI 1)) (((v2 : Int32) >>> (((nI 3) : Int32) &&& 31))) ((nI 99))
noncomputable def fL_put_c90 (Ls : Nat) (xs : Nat → Int32) (s : k_S × k_S) (l2 l5 : Int32) : Option (Int32 × (k_S × k_S)) := k_bn ((nI 2)) fun v1 => k_bn ((nI 0)) fun v2 => fL_put_c96 Ls xs k_F s l2 l5 v1 v2
set_option maxRecDepth 100000 in
set_option maxHeartbeats 4000000 in
theorem kL_put_c90 {X : k_C} {q : Nat → Nat} {b Ls : Nat} {xs : Nat → Int32} (hX : k_Sc X b Ls xs) (s : k_S × k_S) (l2 l5 : Int32) : KO X YL_put (cV 3 (k_I X) q) 0 0 (k_Q k_ei X (cV 3 (k_I X) q)) 90 [some (.ref (q 0)), some (.ref (b)), some (.int l2), none, some (.ref (q 30)), some (.int l5), none, none, none] [] s (fL_put_c90 Ls xs s l2 l5) := by
  unfold fL_put_c90
  refine k_iconst (pc := 90) (v := (nI 2)) dL_put_90 (by decide) ?_
  refine k_ist6 (pc := 91) dL_put_91 (Nat.le_of_ble_eq_true rfl) (fun v1 => ?_)
  refine k_iconst (pc := 93) (v := (nI 0)) dL_put_93 (by decide) ?_
  refine k_ist7 (pc := 94) dL_put_94 (Nat.le_of_ble_eq_true rfl) (fun v2 => ?_)
  exact kL_put_c96 hX k_F s l2 l5 v1 v2
noncomputable def fL_put_c46 (Ls : Nat) (xs : Nat → Int32) (s : k_S × k_S) (l2 l5 : Int32) : Option (Int32 × (k_S × k_S)) := k_ob (fX6_sheet s.1 ((nI 0)) ((nI 0)) ((nI 60))) fun r1 τ2 => k_bn (τ2, s.2) fun s3 => (if r1 = (nI 1) then k_ob (fX6_put s3.1 ((nI 0)) ((nI 0)) ((nI 105))) fun r4 τ5 => k_bn (τ5, s3.2) fun s6 => (if r4 = (nI 1) then k_gd ((nI 0)) 34 (k_ob (fX6_put s6.1 ((nI 0)) ((nI 1)) (((nI 48) + s6.2.2 0 (Int32.toNatClampNeg ((nI 0)))))) fun r7 τ8 => k_bn (τ8, s6.2) fun s9 => (if r7 = (nI 1) then fL_put_c90 Ls xs s9 l2 l5 else some ((k_ng 99), s9))) else some ((k_ng 99), s6)) else some ((k_ng 99), s3))
set_option maxRecDepth 100000 in
set_option maxHeartbeats 4000000 in
theorem kL_put_c46 {X : k_C} {q : Nat → Nat} {b Ls : Nat} {xs : Nat → Int32} (hX : k_Sc X b Ls xs) (s : k_S × k_S) (l2 l5 : Int32) : KO X YL_put (cV 3 (k_I X) q) 0 0 (k_Q k_ei X (cV 3 (k_I X) q)) 46 [some (.ref (q 0)), some (.ref (b)), some (.int l2), none, some (.ref (q 30)), some (.int l5), none, none, none] [] s (fL_put_c46 Ls xs s l2 l5) := by
  unfold fL_put_c46
  refine k_aload_n (pc := 46) dL_put_46 rfl ?_
  refine k_iconst (pc := 47) (v := (nI 0)) dL_put_47 (by decide) ?_
  refine k_iconst (pc := 48) (v := (nI 0)) dL_put_48 (by decide) ?_
  refine k_bipush (pc := 49) (v := (nI 60)) dL_put_49 (by decide) ?_
  refine k_LTi3 (pc := 51) ckX6_sheet rfl kwm_L_19 ⟨rfl, rfl⟩ ⟨Nat.le_of_ble_eq_true rfl, Nat.le_of_ble_eq_true rfl⟩ ⟨Nat.zero_le _, Nat.zero_le _⟩ (Nat.le_of_ble_eq_true rfl) dL_put_51 (fun _ _ hf => kX6_sheet hf) (fun r1 s3 => ?_)
  refine k_iconst (pc := 54) (v := (nI 1)) dL_put_54 (by decide) ?_
  refine k_icmp_ne (pc := 55) 87 dL_put_55 (by decide) ?_ ?_
  · refine k_bipush (pc := 87) (v := (k_ng 99)) dL_put_87 (by decide) ?_
    exact k_ireturn (pc := 89) rfl dL_put_89
  · refine k_aload_n (pc := 58) dL_put_58 rfl ?_
    refine k_iconst (pc := 59) (v := (nI 0)) dL_put_59 (by decide) ?_
    refine k_iconst (pc := 60) (v := (nI 0)) dL_put_60 (by decide) ?_
    refine k_bipush (pc := 61) (v := (nI 105)) dL_put_61 (by decide) ?_
    refine k_LTi3 (pc := 63) ckX6_put rfl kwm_L_25 ⟨rfl, rfl⟩ ⟨Nat.le_of_ble_eq_true rfl, Nat.le_of_ble_eq_true rfl⟩ ⟨Nat.zero_le _, Nat.zero_le _⟩ (Nat.le_of_ble_eq_true rfl) dL_put_63 (fun _ _ hf => kX6_put hf) (fun r4 s6 => ?_)
    refine k_iconst (pc := 66) (v := (nI 1)) dL_put_66 (by decide) ?_
    refine k_icmp_ne (pc := 67) 87 dL_put_67 (by decide) ?_ ?_
    · refine k_bipush (pc := 87) (v := (k_ng 99)) dL_put_87 (by decide) ?_
      exact k_ireturn (pc := 89) rfl dL_put_89
    · refine k_aload_n (pc := 70) dL_put_70 rfl ?_
      refine k_iconst (pc := 71) (v := (nI 0)) dL_put_71 (by decide) ?_
      refine k_iconst (pc := 72) (v := (nI 1)) dL_put_72 (by decide) ?_
      refine k_bipush (pc := 73) (v := (nI 48)) dL_put_73 (by decide) ?_
      refine k_aload (pc := 75) dL_put_75 rfl ?_
      refine k_iconst (pc := 77) (v := (nI 0)) dL_put_77 (by decide) ?_
      refine k_lV3_0 (pc := 78) dL_put_78 ?_
      refine k_iadd (pc := 79) dL_put_79 ?_
      refine k_LTi3 (pc := 80) ckX6_put rfl kwm_L_25 ⟨rfl, rfl⟩ ⟨Nat.le_of_ble_eq_true rfl, Nat.le_of_ble_eq_true rfl⟩ ⟨Nat.zero_le _, Nat.zero_le _⟩ (Nat.le_of_ble_eq_true rfl) dL_put_80 (fun _ _ hf => kX6_put hf) (fun r7 s9 => ?_)
      refine k_iconst (pc := 83) (v := (nI 1)) dL_put_83 (by decide) ?_
      refine k_icmp_eq (pc := 84) 90 dL_put_84 (by decide) ?_ ?_
      · exact kL_put_c90 hX s9 l2 l5
      · refine k_bipush (pc := 87) (v := (k_ng 99)) dL_put_87 (by decide) ?_
        exact k_ireturn (pc := 89) rfl dL_put_89
noncomputable def fL_put (Ls : Nat) (xs : Nat → Int32) (s : k_S × k_S) (x2 x3 : Int32) : Option (Int32 × (k_S × k_S)) := k_oq (fL_cell Ls xs (x2)) fun r1 => k_bn (r1) fun v2 => k_oq (fL_some (v2) ((nI 4))) fun r3 => k_gd ((nI 0)) 34 (k_bn (k_sV s 0 ((nI 0)) (((nI 2) + r3))) fun s4 => k_oq (fL_some (((v2 : Int32) >>> (((nI 3) : Int32) &&& 31))) (x3)) fun r5 => k_gd ((nI 1)) 34 (k_bn (k_sV s4 0 ((nI 1)) (((nI 1) + r5))) fun s6 => k_gd ((nI 32)) 34 (k_bn (k_sV s6 0 ((nI 32)) ((nI 99))) fun s7 => k_gd ((nI 33)) 34 (k_bn (k_sV s7 0 ((nI 33)) ((nI 0))) fun s8 => fL_put_c46 Ls xs s8 x2 v2))))
set_option maxRecDepth 100000 in
set_option maxHeartbeats 4000000 in
theorem kL_put {D : va_G} {cI : ClassId} {q : Nat → Nat} {s : k_S × k_S} {b Ls : Nat} {xs : Nat → Int32} {x2 x3 : Int32} {r0 : Int32} {τ : k_S × k_S} (h : fL_put Ls xs s x2 x3 = some (r0, τ)) : k_Cx b Ls xs k_ei yL_put cL_put 9 (some .int) rmL_put (cV 3 cI q) D cI [.ref (q 0), .ref (b), .int x2, .int x3, .ref (q 30)] s r0 τ := by
  refine k_metx (Y := YL_put) (cV_same _ _ _) (by decide) rfl (Nat.le_of_ble_eq_true rfl) (List.forall_mem_cons.mpr ⟨rfl, List.forall_mem_cons.mpr ⟨rfl, List.forall_mem_cons.mpr ⟨rfl, List.forall_mem_cons.mpr ⟨rfl, List.forall_mem_cons.mpr ⟨rfl, fun _ h => absurd h List.not_mem_nil⟩⟩⟩⟩⟩) (fun X hD hI hX => ?_) h
  subst hD hI
  show KO X YL_put (cV 3 (k_I X) q) 0 0 (k_Q k_ei X (cV 3 (k_I X) q)) 0 [some (.ref (q 0)), some (.ref (b)), some (.int x2), some (.int x3), some (.ref (q 30)), none, none, none, none] [] s _
  unfold fL_put
  refine k_aload_n (pc := 0) dL_put_0 rfl ?_
  refine k_iload_n (pc := 1) dL_put_1 rfl ?_
  refine k_cqx (pc := 2) (n := 2) (As := [.ref (b), .int (x2)]) hX ckL_cell kwm_L_9 rfl ⟨rfl, rfl⟩ ⟨Nat.le_of_ble_eq_true rfl, Nat.le_of_ble_eq_true rfl⟩ ⟨Nat.zero_le _, Nat.zero_le _⟩ (Nat.le_of_ble_eq_true rfl) dL_put_2 rfl (fun _ _ hf => kL_cell hf) (fun r1 => ?_)
  refine k_ist5 (pc := 5) dL_put_5 (Nat.le_of_ble_eq_true rfl) (fun v2 => ?_)
  refine k_aload (pc := 7) dL_put_7 rfl ?_
  refine k_iconst (pc := 9) (v := (nI 0)) dL_put_9 (by decide) ?_
  refine k_iconst (pc := 10) (v := (nI 2)) dL_put_10 (by decide) ?_
  refine k_iload (pc := 11) dL_put_11 rfl ?_
  refine k_iconst (pc := 13) (v := (nI 4)) dL_put_13 (by decide) ?_
  refine k_cq (pc := 14) (n := 2) (W0 := ([] : va_W)) (As := [.int (v2), .int ((nI 4))]) [] (by decide) rfl ckL_some kwm_L_15 rfl ⟨rfl, rfl⟩ ⟨Nat.le_of_ble_eq_true rfl, Nat.le_of_ble_eq_true rfl⟩ ⟨Nat.zero_le _, Nat.zero_le _⟩ (Nat.le_of_ble_eq_true rfl) dL_put_14 rfl (fun _ _ hf => kL_some hf) (fun r3 => ?_)
  refine k_iadd (pc := 17) dL_put_17 ?_
  refine k_sV3_0 (pc := 18) dL_put_18 (fun s4 => ?_)
  refine k_aload (pc := 19) dL_put_19 rfl ?_
  refine k_iconst (pc := 21) (v := (nI 1)) dL_put_21 (by decide) ?_
  refine k_iconst (pc := 22) (v := (nI 1)) dL_put_22 (by decide) ?_
  refine k_iload (pc := 23) dL_put_23 rfl ?_
  refine k_iconst (pc := 25) (v := (nI 3)) dL_put_25 (by decide) ?_
  refine k_ishr (pc := 26) dL_put_26 ?_
  refine k_iload_n (pc := 27) dL_put_27 rfl ?_
  refine k_cq (pc := 28) (n := 2) (W0 := ([] : va_W)) (As := [.int (((v2 : Int32) >>> (((nI 3) : Int32) &&& 31))), .int (x3)]) [] (by decide) rfl ckL_some kwm_L_15 rfl ⟨rfl, rfl⟩ ⟨Nat.le_of_ble_eq_true rfl, Nat.le_of_ble_eq_true rfl⟩ ⟨Nat.zero_le _, Nat.zero_le _⟩ (Nat.le_of_ble_eq_true rfl) dL_put_28 rfl (fun _ _ hf => kL_some hf) (fun r5 => ?_)
  refine k_iadd (pc := 31) dL_put_31 ?_
  refine k_sV3_0 (pc := 32) dL_put_32 (fun s6 => ?_)
  refine k_aload (pc := 33) dL_put_33 rfl ?_
  refine k_bipush (pc := 35) (v := (nI 32)) dL_put_35 (by decide) ?_
  refine k_bipush (pc := 37) (v := (nI 99)) dL_put_37 (by decide) ?_
  refine k_sV3_0 (pc := 39) dL_put_39 (fun s7 => ?_)
  refine k_aload (pc := 40) dL_put_40 rfl ?_
  refine k_bipush (pc := 42) (v := (nI 33)) dL_put_42 (by decide) ?_
  refine k_iconst (pc := 44) (v := (nI 0)) dL_put_44 (by decide) ?_
  refine k_sV3_0 (pc := 45) dL_put_45 (fun s8 => ?_)
  refine k_fg3 ?_
  exact kL_put_c46 hX s8 x2 v2
-- L_choose
theorem ckL_choose : k_Sok yL_choose cL_choose 8 (some .boolean) 5 := ⟨kwk_L_choose, kws_L_choose, kwn_L, by decide, by decide +kernel⟩
abbrev rmL_choose : Room := { frames := 3, cells := 0, slots := 0, locals := 68 }
abbrev YL_choose : k_Y := (rmL_choose, cL_choose, 8, RL, (some .boolean))
noncomputable def fL_choose_c82 (kh3 : k_S × k_S → Int32 → Int32 → Option (Int32 × (k_S × k_S))) (kh30 : k_S × k_S → Int32 → Int32 → Int32 → Int32 → Option (Int32 × (k_S × k_S))) (s : k_S × k_S) (l1 l5 l6 l7 : Int32) : Option (Int32 × (k_S × k_S)) := k_gd ((nI 1)) 34 (k_nz (s.2.2 0 (Int32.toNatClampNeg ((nI 1)))) (k_bn (((l6 + (nI 1)) - (l6 + (nI 1)) / s.2.2 0 (Int32.toNatClampNeg ((nI 1))) * s.2.2 0 (Int32.toNatClampNeg ((nI 1))))) fun v1 => k_bn (l7 + (nI 1)) fun v2 => kh30 s l1 l5 v1 v2))
set_option maxRecDepth 100000 in
set_option maxHeartbeats 4000000 in
theorem kL_choose_c82 {X : k_C} {q : Nat → Nat} (kh3 : k_S × k_S → Int32 → Int32 → Option (Int32 × (k_S × k_S))) (hk3 : ∀ (s : k_S × k_S) (l1 l5 : Int32), KO X YL_choose (cV 3 (k_I X) q) 0 0 (k_Q k_ei X (cV 3 (k_I X) q)) 3 [some (.ref (q 0)), some (.int l1), some (.ref (q 30)), some (.ref (q 31)), some (.ref (q 32)), some (.int l5), none, none] [] s (kh3 s l1 l5)) (kh30 : k_S × k_S → Int32 → Int32 → Int32 → Int32 → Option (Int32 × (k_S × k_S))) (hk30 : ∀ (s : k_S × k_S) (l1 l5 l6 l7 : Int32), KO X YL_choose (cV 3 (k_I X) q) 0 0 (k_Q k_ei X (cV 3 (k_I X) q)) 30 [some (.ref (q 0)), some (.int l1), some (.ref (q 30)), some (.ref (q 31)), some (.ref (q 32)), some (.int l5), some (.int l6), some (.int l7)] [] s (kh30 s l1 l5 l6 l7)) (s : k_S × k_S) (l1 l5 l6 l7 : Int32) : KO X YL_choose (cV 3 (k_I X) q) 0 0 (k_Q k_ei X (cV 3 (k_I X) q)) 82 [some (.ref (q 0)), some (.int l1), some (.ref (q 30)), some (.ref (q 31)), some (.ref (q 32)), some (.int l5), some (.int l6), some (.int l7)] [] s (fL_choose_c82 kh3 kh30 s l1 l5 l6 l7) := by
  unfold fL_choose_c82
  refine k_iload (pc := 82) dL_choose_82 rfl ?_
  refine k_iconst (pc := 84) (v := (nI 1)) dL_choose_84 (by decide) ?_
  refine k_iadd (pc := 85) dL_choose_85 ?_
  refine k_aload_n (pc := 86) dL_choose_86 rfl ?_
  refine k_iconst (pc := 87) (v := (nI 1)) dL_choose_87 (by decide) ?_
  refine k_lV3_0 (pc := 88) dL_choose_88 ?_
  refine k_irem' (pc := 89) dL_choose_89 ?_
  refine k_ist6 (pc := 90) dL_choose_90 (Nat.le_of_ble_eq_true rfl) (fun v1 => ?_)
  refine k_iinc7 (pc := 92) (w := (nI 1)) dL_choose_92 rfl (by decide) (Nat.le_of_ble_eq_true rfl) (fun v2 => ?_)
  refine k_goto (pc := 95) 30 dL_choose_95 (by decide) ?_
  exact hk30 s l1 l5 v1 v2
noncomputable def fL_choose_c191 (kh3 : k_S × k_S → Int32 → Int32 → Option (Int32 × (k_S × k_S))) (s : k_S × k_S) (l1 l5 t1 t2 : Int32) : Option (Int32 × (k_S × k_S)) := k_gd (t1) 5 (k_bn (k_sV s 2 (t1) (t2)) fun s1 => k_bn (l5 + (nI 1)) fun v2 => kh3 s1 l1 v2)
set_option maxRecDepth 100000 in
set_option maxHeartbeats 4000000 in
theorem kL_choose_c191 {X : k_C} {q : Nat → Nat} (kh3 : k_S × k_S → Int32 → Int32 → Option (Int32 × (k_S × k_S))) (hk3 : ∀ (s : k_S × k_S) (l1 l5 : Int32), KO X YL_choose (cV 3 (k_I X) q) 0 0 (k_Q k_ei X (cV 3 (k_I X) q)) 3 [some (.ref (q 0)), some (.int l1), some (.ref (q 30)), some (.ref (q 31)), some (.ref (q 32)), some (.int l5), none, none] [] s (kh3 s l1 l5)) (s : k_S × k_S) (l1 l5 t1 t2 : Int32) : KO X YL_choose (cV 3 (k_I X) q) 0 0 (k_Q k_ei X (cV 3 (k_I X) q)) 191 [some (.ref (q 0)), some (.int l1), some (.ref (q 30)), some (.ref (q 31)), some (.ref (q 32)), some (.int l5), none, none] [.int t2, .int t1, .ref (q 32)] s (fL_choose_c191 kh3 s l1 l5 t1 t2) := by
  unfold fL_choose_c191
  refine k_sV3_2 (pc := 191) dL_choose_191 (fun s1 => ?_)
  refine k_iinc5 (pc := 192) (w := (nI 1)) dL_choose_192 rfl (by decide) (Nat.le_of_ble_eq_true rfl) (fun v2 => ?_)
  refine k_goto (pc := 195) 3 dL_choose_195 (by decide) ?_
  exact hk3 s1 l1 v2
noncomputable def fL_choose_c167 (kh3 : k_S × k_S → Int32 → Int32 → Option (Int32 × (k_S × k_S))) (s : k_S × k_S) (l1 l5 l6 l7 t0 t1 : Int32) : Option (Int32 × (k_S × k_S)) := (if t0 = t1 then (if l7 = 0 then k_gd (l5) 5 (fL_choose_c191 kh3 s l1 l5 l5 (s.2.2 2 (Int32.toNatClampNeg (l5)))) else fL_choose_c191 kh3 s l1 l5 l5 l6) else k_z ((nI 0)) (some ((nI 0), s)))
set_option maxRecDepth 100000 in
set_option maxHeartbeats 4000000 in
theorem kL_choose_c167 {X : k_C} {q : Nat → Nat} (kh3 : k_S × k_S → Int32 → Int32 → Option (Int32 × (k_S × k_S))) (hk3 : ∀ (s : k_S × k_S) (l1 l5 : Int32), KO X YL_choose (cV 3 (k_I X) q) 0 0 (k_Q k_ei X (cV 3 (k_I X) q)) 3 [some (.ref (q 0)), some (.int l1), some (.ref (q 30)), some (.ref (q 31)), some (.ref (q 32)), some (.int l5), none, none] [] s (kh3 s l1 l5)) (s : k_S × k_S) (l1 l5 l6 l7 t0 t1 : Int32) : KO X YL_choose (cV 3 (k_I X) q) 0 0 (k_Q k_ei X (cV 3 (k_I X) q)) 167 [some (.ref (q 0)), some (.int l1), some (.ref (q 30)), some (.ref (q 31)), some (.ref (q 32)), some (.int l5), some (.int l6), some (.int l7)] [.int t1, .int t0] s (fL_choose_c167 kh3 s l1 l5 l6 l7 t0 t1) := by
  unfold fL_choose_c167
  refine k_icmp_eq (pc := 167) 172 dL_choose_167 (by decide) ?_ ?_
  · refine k_aload (pc := 172) dL_choose_172 rfl ?_
    refine k_iload (pc := 174) dL_choose_174 rfl ?_
    refine k_iload (pc := 176) dL_choose_176 rfl ?_
    refine k_if_eq (pc := 178) 186 dL_choose_178 (by decide) ?_ ?_
    · refine k_aload (pc := 186) dL_choose_186 rfl ?_
      refine k_iload (pc := 188) dL_choose_188 rfl ?_
      refine k_lV3_2 (pc := 190) dL_choose_190 ?_
      refine k_fg6 ?_
      refine k_fg7 ?_
      exact kL_choose_c191 kh3 hk3 s l1 l5 l5 (s.2.2 2 (Int32.toNatClampNeg (l5)))
    · refine k_iload (pc := 181) dL_choose_181 rfl ?_
      refine k_goto (pc := 183) 191 dL_choose_183 (by decide) ?_
      refine k_fg6 ?_
      refine k_fg7 ?_
      exact kL_choose_c191 kh3 hk3 s l1 l5 l5 l6
  · refine k_iconst (pc := 170) (v := (nI 0)) dL_choose_170 (by decide) ?_
    exact k_zreturn (pc := 171) rfl dL_choose_171
noncomputable def fL_choose_c142 (kh3 : k_S × k_S → Int32 → Int32 → Option (Int32 × (k_S × k_S))) (s : k_S × k_S) (l1 l5 l6 t0 : Int32) : Option (Int32 × (k_S × k_S)) := k_bn (t0) fun v1 => k_ob (fX6_choose s.1 (l5) (l6)) fun r2 τ3 => k_bn (τ3, s.2) fun s4 => (if v1 = 0 then fL_choose_c167 kh3 s4 l1 l5 l6 v1 r2 ((k_ng 3)) else k_gd (l5) 5 (fL_choose_c167 kh3 s4 l1 l5 l6 v1 r2 (s4.2.2 2 (Int32.toNatClampNeg (l5)))))
set_option maxRecDepth 100000 in
set_option maxHeartbeats 4000000 in
theorem kL_choose_c142 {X : k_C} {q : Nat → Nat} (kh3 : k_S × k_S → Int32 → Int32 → Option (Int32 × (k_S × k_S))) (hk3 : ∀ (s : k_S × k_S) (l1 l5 : Int32), KO X YL_choose (cV 3 (k_I X) q) 0 0 (k_Q k_ei X (cV 3 (k_I X) q)) 3 [some (.ref (q 0)), some (.int l1), some (.ref (q 30)), some (.ref (q 31)), some (.ref (q 32)), some (.int l5), none, none] [] s (kh3 s l1 l5)) (s : k_S × k_S) (l1 l5 l6 t0 : Int32) : KO X YL_choose (cV 3 (k_I X) q) 0 0 (k_Q k_ei X (cV 3 (k_I X) q)) 142 [some (.ref (q 0)), some (.int l1), some (.ref (q 30)), some (.ref (q 31)), some (.ref (q 32)), some (.int l5), some (.int l6), none] [.int t0] s (fL_choose_c142 kh3 s l1 l5 l6 t0) := by
  unfold fL_choose_c142
  refine k_ist7 (pc := 142) dL_choose_142 (Nat.le_of_ble_eq_true rfl) (fun v1 => ?_)
  refine k_aload_n (pc := 144) dL_choose_144 rfl ?_
  refine k_iload (pc := 145) dL_choose_145 rfl ?_
  refine k_iload (pc := 147) dL_choose_147 rfl ?_
  refine k_LTi2 (pc := 149) ckX6_choose rfl kwm_L_43 ⟨rfl, rfl⟩ ⟨Nat.le_of_ble_eq_true rfl, Nat.le_of_ble_eq_true rfl⟩ ⟨Nat.zero_le _, Nat.zero_le _⟩ (Nat.le_of_ble_eq_true rfl) dL_choose_149 (fun _ _ hf => kX6_choose hf) (fun r2 s4 => ?_)
  refine k_iload (pc := 152) dL_choose_152 rfl ?_
  refine k_if_eq (pc := 154) 165 dL_choose_154 (by decide) ?_ ?_
  · refine k_bipush (pc := 165) (v := (k_ng 3)) dL_choose_165 (by decide) ?_
    exact kL_choose_c167 kh3 hk3 s4 l1 l5 l6 v1 r2 ((k_ng 3))
  · refine k_aload (pc := 157) dL_choose_157 rfl ?_
    refine k_iload (pc := 159) dL_choose_159 rfl ?_
    refine k_lV3_2 (pc := 161) dL_choose_161 ?_
    refine k_goto (pc := 162) 167 dL_choose_162 (by decide) ?_
    exact kL_choose_c167 kh3 hk3 s4 l1 l5 l6 v1 r2 (s4.2.2 2 (Int32.toNatClampNeg (l5)))
noncomputable def fL_choose_c137 (kh3 : k_S × k_S → Int32 → Int32 → Option (Int32 × (k_S × k_S))) (s : k_S × k_S) (l1 l5 l6 : Int32) : Option (Int32 × (k_S × k_S)) := fL_choose_c142 kh3 s l1 l5 l6 ((nI 1))
set_option maxRecDepth 100000 in
set_option maxHeartbeats 4000000 in
theorem kL_choose_c137 {X : k_C} {q : Nat → Nat} (kh3 : k_S × k_S → Int32 → Int32 → Option (Int32 × (k_S × k_S))) (hk3 : ∀ (s : k_S × k_S) (l1 l5 : Int32), KO X YL_choose (cV 3 (k_I X) q) 0 0 (k_Q k_ei X (cV 3 (k_I X) q)) 3 [some (.ref (q 0)), some (.int l1), some (.ref (q 30)), some (.ref (q 31)), some (.ref (q 32)), some (.int l5), none, none] [] s (kh3 s l1 l5)) (s : k_S × k_S) (l1 l5 l6 : Int32) : KO X YL_choose (cV 3 (k_I X) q) 0 0 (k_Q k_ei X (cV 3 (k_I X) q)) 137 [some (.ref (q 0)), some (.int l1), some (.ref (q 30)), some (.ref (q 31)), some (.ref (q 32)), some (.int l5), some (.int l6), none] [] s (fL_choose_c137 kh3 s l1 l5 l6) := by
  unfold fL_choose_c137
  refine k_iconst (pc := 137) (v := (nI 1)) dL_choose_137 (by decide) ?_
  refine k_goto (pc := 138) 142 dL_choose_138 (by decide) ?_
  exact kL_choose_c142 kh3 hk3 s l1 l5 l6 ((nI 1))
noncomputable def fL_choose_c141 (kh3 : k_S × k_S → Int32 → Int32 → Option (Int32 × (k_S × k_S))) (s : k_S × k_S) (l1 l5 l6 : Int32) : Option (Int32 × (k_S × k_S)) := fL_choose_c142 kh3 s l1 l5 l6 ((nI 0))
set_option maxRecDepth 100000 in
set_option maxHeartbeats 4000000 in
theorem kL_choose_c141 {X : k_C} {q : Nat → Nat} (kh3 : k_S × k_S → Int32 → Int32 → Option (Int32 × (k_S × k_S))) (hk3 : ∀ (s : k_S × k_S) (l1 l5 : Int32), KO X YL_choose (cV 3 (k_I X) q) 0 0 (k_Q k_ei X (cV 3 (k_I X) q)) 3 [some (.ref (q 0)), some (.int l1), some (.ref (q 30)), some (.ref (q 31)), some (.ref (q 32)), some (.int l5), none, none] [] s (kh3 s l1 l5)) (s : k_S × k_S) (l1 l5 l6 : Int32) : KO X YL_choose (cV 3 (k_I X) q) 0 0 (k_Q k_ei X (cV 3 (k_I X) q)) 141 [some (.ref (q 0)), some (.int l1), some (.ref (q 30)), some (.ref (q 31)), some (.ref (q 32)), some (.int l5), some (.int l6), none] [] s (fL_choose_c141 kh3 s l1 l5 l6) := by
  unfold fL_choose_c141
  refine k_iconst (pc := 141) (v := (nI 0)) dL_choose_141 (by decide) ?_
  exact kL_choose_c142 kh3 hk3 s l1 l5 l6 ((nI 0))
noncomputable def fL_choose_c110 (kh3 : k_S × k_S → Int32 → Int32 → Option (Int32 × (k_S × k_S))) (s : k_S × k_S) (l1 l5 l6 : Int32) : Option (Int32 × (k_S × k_S)) := (if l6 < 0 then fL_choose_c137 kh3 s l1 l5 l6 else k_gd (((nI 12) + l6)) 34 ((if s.2.2 0 (Int32.toNatClampNeg (((nI 12) + l6))) = l5 then k_oq (fL_may (s.2.2 0) (s.2.2 1) (l6)) fun r1 => (if r1 = 0 then fL_choose_c141 kh3 s l1 l5 l6 else fL_choose_c137 kh3 s l1 l5 l6) else fL_choose_c141 kh3 s l1 l5 l6)))
set_option maxRecDepth 100000 in
set_option maxHeartbeats 4000000 in
theorem kL_choose_c110 {X : k_C} {q : Nat → Nat} (kh3 : k_S × k_S → Int32 → Int32 → Option (Int32 × (k_S × k_S))) (hk3 : ∀ (s : k_S × k_S) (l1 l5 : Int32), KO X YL_choose (cV 3 (k_I X) q) 0 0 (k_Q k_ei X (cV 3 (k_I X) q)) 3 [some (.ref (q 0)), some (.int l1), some (.ref (q 30)), some (.ref (q 31)), some (.ref (q 32)), some (.int l5), none, none] [] s (kh3 s l1 l5)) (s : k_S × k_S) (l1 l5 l6 : Int32) : KO X YL_choose (cV 3 (k_I X) q) 0 0 (k_Q k_ei X (cV 3 (k_I X) q)) 110 [some (.ref (q 0)), some (.int l1), some (.ref (q 30)), some (.ref (q 31)), some (.ref (q 32)), some (.int l5), some (.int l6), none] [] s (fL_choose_c110 kh3 s l1 l5 l6) := by
  unfold fL_choose_c110
  refine k_iload (pc := 110) dL_choose_110 rfl ?_
  refine k_if_lt (pc := 112) 137 dL_choose_112 (by decide) ?_ ?_
  · exact kL_choose_c137 kh3 hk3 s l1 l5 l6
  · refine k_aload_n (pc := 115) dL_choose_115 rfl ?_
    refine k_bipush (pc := 116) (v := (nI 12)) dL_choose_116 (by decide) ?_
    refine k_iload (pc := 118) dL_choose_118 rfl ?_
    refine k_iadd (pc := 120) dL_choose_120 ?_
    refine k_lV3_0 (pc := 121) dL_choose_121 ?_
    refine k_iload (pc := 122) dL_choose_122 rfl ?_
    refine k_icmp_ne (pc := 124) 141 dL_choose_124 (by decide) ?_ ?_
    · exact kL_choose_c141 kh3 hk3 s l1 l5 l6
    · refine k_aload_n (pc := 127) dL_choose_127 rfl ?_
      refine k_aload_n (pc := 128) dL_choose_128 rfl ?_
      refine k_iload (pc := 129) dL_choose_129 rfl ?_
      refine k_cq (pc := 131) (n := 3) (W0 := cR (k_I X) (fun k => q (30 + k)) (s.2.2 0) (s.2.2 1) (s.2.2 2)) (As := [.ref (q 30), .ref (q 31), .int (l6)]) [30, 31, 32] (by decide) rfl ckL_may kwm_L_39 rfl ⟨rfl, rfl⟩ ⟨Nat.le_of_ble_eq_true rfl, Nat.le_of_ble_eq_true rfl⟩ ⟨Nat.zero_le _, Nat.zero_le _⟩ (Nat.le_of_ble_eq_true rfl) dL_choose_131 rfl (fun _ _ hf => kL_may (q := (fun k => q (30 + k))) (g := (s.2.2 0)) (b := (s.2.2 1)) (r := (s.2.2 2)) hf) (fun r1 => ?_)
      refine k_if_eq (pc := 134) 141 dL_choose_134 (by decide) ?_ ?_
      · exact kL_choose_c141 kh3 hk3 s l1 l5 l6
      · exact kL_choose_c137 kh3 hk3 s l1 l5 l6
noncomputable def fL_choose_c98 (kh3 : k_S × k_S → Int32 → Int32 → Option (Int32 × (k_S × k_S))) (s : k_S × k_S) (l1 l5 l6 : Int32) : Option (Int32 × (k_S × k_S)) := k_gd ((nI 1)) 34 ((if l6 = s.2.2 0 (Int32.toNatClampNeg ((nI 1))) then k_bn ((k_ng 9)) fun v1 => fL_choose_c110 kh3 s l1 l5 v1 else fL_choose_c110 kh3 s l1 l5 l6))
set_option maxRecDepth 100000 in
set_option maxHeartbeats 4000000 in
theorem kL_choose_c98 {X : k_C} {q : Nat → Nat} (kh3 : k_S × k_S → Int32 → Int32 → Option (Int32 × (k_S × k_S))) (hk3 : ∀ (s : k_S × k_S) (l1 l5 : Int32), KO X YL_choose (cV 3 (k_I X) q) 0 0 (k_Q k_ei X (cV 3 (k_I X) q)) 3 [some (.ref (q 0)), some (.int l1), some (.ref (q 30)), some (.ref (q 31)), some (.ref (q 32)), some (.int l5), none, none] [] s (kh3 s l1 l5)) (s : k_S × k_S) (l1 l5 l6 : Int32) : KO X YL_choose (cV 3 (k_I X) q) 0 0 (k_Q k_ei X (cV 3 (k_I X) q)) 98 [some (.ref (q 0)), some (.int l1), some (.ref (q 30)), some (.ref (q 31)), some (.ref (q 32)), some (.int l5), some (.int l6), none] [] s (fL_choose_c98 kh3 s l1 l5 l6) := by
  unfold fL_choose_c98
  refine k_iload (pc := 98) dL_choose_98 rfl ?_
  refine k_aload_n (pc := 100) dL_choose_100 rfl ?_
  refine k_iconst (pc := 101) (v := (nI 1)) dL_choose_101 (by decide) ?_
  refine k_lV3_0 (pc := 102) dL_choose_102 ?_
  refine k_icmp_ne (pc := 103) 110 dL_choose_103 (by decide) ?_ ?_
  · exact kL_choose_c110 kh3 hk3 s l1 l5 l6
  · refine k_bipush (pc := 106) (v := (k_ng 9)) dL_choose_106 (by decide) ?_
    refine k_ist6 (pc := 108) dL_choose_108 (Nat.le_of_ble_eq_true rfl) (fun v1 => ?_)
    exact kL_choose_c110 kh3 hk3 s l1 l5 v1
noncomputable def fL_choose_c30 (kh3 : k_S × k_S → Int32 → Int32 → Option (Int32 × (k_S × k_S))) : Nat → k_S × k_S → Int32 → Int32 → Int32 → Int32 → Option (Int32 × (k_S × k_S))
  | 0, _, _, _, _, _ => none
  | n + 1, s, l1, l5, l6, l7 => k_gd ((nI 1)) 34 ((if l7 < s.2.2 0 (Int32.toNatClampNeg ((nI 1))) then k_oq (fL_some (((l1 : Int32) >>> ((((nI 11) + l5) : Int32) &&& 31))) ((nI 3))) fun r1 => (if 0 < r1 then k_gd ((nI 1)) 34 ((if l6 = s.2.2 0 (Int32.toNatClampNeg ((nI 1))) then fL_choose_c82 kh3 (fL_choose_c30 kh3 n) s l1 l5 l6 l7 else k_gd (((nI 12) + l6)) 34 ((if s.2.2 0 (Int32.toNatClampNeg (((nI 12) + l6))) = l5 then k_oq (fL_may (s.2.2 0) (s.2.2 1) (l6)) fun r2 => (if r2 = 0 then fL_choose_c82 kh3 (fL_choose_c30 kh3 n) s l1 l5 l6 l7 else fL_choose_c98 kh3 s l1 l5 l6) else fL_choose_c82 kh3 (fL_choose_c30 kh3 n) s l1 l5 l6 l7)))) else fL_choose_c98 kh3 s l1 l5 l6) else fL_choose_c98 kh3 s l1 l5 l6))
theorem fL_choose_c30_s (kh3 : k_S × k_S → Int32 → Int32 → Option (Int32 × (k_S × k_S))) (n : Nat) (s : k_S × k_S) (l1 l5 l6 l7 : Int32) : fL_choose_c30 kh3 (n + 1) s l1 l5 l6 l7 = k_gd ((nI 1)) 34 ((if l7 < s.2.2 0 (Int32.toNatClampNeg ((nI 1))) then k_oq (fL_some (((l1 : Int32) >>> ((((nI 11) + l5) : Int32) &&& 31))) ((nI 3))) fun r1 => (if 0 < r1 then k_gd ((nI 1)) 34 ((if l6 = s.2.2 0 (Int32.toNatClampNeg ((nI 1))) then fL_choose_c82 kh3 (fL_choose_c30 kh3 n) s l1 l5 l6 l7 else k_gd (((nI 12) + l6)) 34 ((if s.2.2 0 (Int32.toNatClampNeg (((nI 12) + l6))) = l5 then k_oq (fL_may (s.2.2 0) (s.2.2 1) (l6)) fun r2 => (if r2 = 0 then fL_choose_c82 kh3 (fL_choose_c30 kh3 n) s l1 l5 l6 l7 else fL_choose_c98 kh3 s l1 l5 l6) else fL_choose_c82 kh3 (fL_choose_c30 kh3 n) s l1 l5 l6 l7)))) else fL_choose_c98 kh3 s l1 l5 l6) else fL_choose_c98 kh3 s l1 l5 l6)) := rfl
set_option maxRecDepth 100000 in
set_option maxHeartbeats 4000000 in
theorem kL_choose_c30 {X : k_C} {q : Nat → Nat} (kh3 : k_S × k_S → Int32 → Int32 → Option (Int32 × (k_S × k_S))) (hk3 : ∀ (s : k_S × k_S) (l1 l5 : Int32), KO X YL_choose (cV 3 (k_I X) q) 0 0 (k_Q k_ei X (cV 3 (k_I X) q)) 3 [some (.ref (q 0)), some (.int l1), some (.ref (q 30)), some (.ref (q 31)), some (.ref (q 32)), some (.int l5), none, none] [] s (kh3 s l1 l5)) : ∀ (n : Nat) (s : k_S × k_S) (l1 l5 l6 l7 : Int32), KO X YL_choose (cV 3 (k_I X) q) 0 0 (k_Q k_ei X (cV 3 (k_I X) q)) 30 [some (.ref (q 0)), some (.int l1), some (.ref (q 30)), some (.ref (q 31)), some (.ref (q 32)), some (.int l5), some (.int l6), some (.int l7)] [] s (fL_choose_c30 kh3 n s l1 l5 l6 l7) := by
  intro n
  induction n with
  | zero => intros; exact KO.nil
  | succ n ih =>
    intro s l1 l5 l6 l7
    rw [fL_choose_c30_s]
    refine k_iload (pc := 30) dL_choose_30 rfl ?_
    refine k_aload_n (pc := 32) dL_choose_32 rfl ?_
    refine k_iconst (pc := 33) (v := (nI 1)) dL_choose_33 (by decide) ?_
    refine k_lV3_0 (pc := 34) dL_choose_34 ?_
    refine k_icmp_ge (pc := 35) 98 dL_choose_35 (by decide) ?_ ?_
    · refine k_fg7 ?_
      exact kL_choose_c98 kh3 hk3 s l1 l5 l6
    · refine k_iload_n (pc := 38) dL_choose_38 rfl ?_
      refine k_bipush (pc := 39) (v := (nI 11)) dL_choose_39 (by decide) ?_
      refine k_iload (pc := 41) dL_choose_41 rfl ?_
      refine k_iadd (pc := 43) dL_choose_43 ?_
      refine k_ishr (pc := 44) dL_choose_44 ?_
      refine k_iconst (pc := 45) (v := (nI 3)) dL_choose_45 (by decide) ?_
      refine k_cq (pc := 46) (n := 2) (W0 := ([] : va_W)) (As := [.int (((l1 : Int32) >>> ((((nI 11) + l5) : Int32) &&& 31))), .int ((nI 3))]) [] (by decide) rfl ckL_some kwm_L_15 rfl ⟨rfl, rfl⟩ ⟨Nat.le_of_ble_eq_true rfl, Nat.le_of_ble_eq_true rfl⟩ ⟨Nat.zero_le _, Nat.zero_le _⟩ (Nat.le_of_ble_eq_true rfl) dL_choose_46 rfl (fun _ _ hf => kL_some hf) (fun r1 => ?_)
      refine k_if_le (pc := 49) 98 dL_choose_49 (by decide) ?_ ?_
      · refine k_fg7 ?_
        exact kL_choose_c98 kh3 hk3 s l1 l5 l6
      · refine k_iload (pc := 52) dL_choose_52 rfl ?_
        refine k_aload_n (pc := 54) dL_choose_54 rfl ?_
        refine k_iconst (pc := 55) (v := (nI 1)) dL_choose_55 (by decide) ?_
        refine k_lV3_0 (pc := 56) dL_choose_56 ?_
        refine k_icmp_eq (pc := 57) 82 dL_choose_57 (by decide) ?_ ?_
        · exact kL_choose_c82 kh3 hk3 (fL_choose_c30 kh3 n) ih s l1 l5 l6 l7
        · refine k_aload_n (pc := 60) dL_choose_60 rfl ?_
          refine k_bipush (pc := 61) (v := (nI 12)) dL_choose_61 (by decide) ?_
          refine k_iload (pc := 63) dL_choose_63 rfl ?_
          refine k_iadd (pc := 65) dL_choose_65 ?_
          refine k_lV3_0 (pc := 66) dL_choose_66 ?_
          refine k_iload (pc := 67) dL_choose_67 rfl ?_
          refine k_icmp_ne (pc := 69) 82 dL_choose_69 (by decide) ?_ ?_
          · exact kL_choose_c82 kh3 hk3 (fL_choose_c30 kh3 n) ih s l1 l5 l6 l7
          · refine k_aload_n (pc := 72) dL_choose_72 rfl ?_
            refine k_aload_n (pc := 73) dL_choose_73 rfl ?_
            refine k_iload (pc := 74) dL_choose_74 rfl ?_
            refine k_cq (pc := 76) (n := 3) (W0 := cR (k_I X) (fun k => q (30 + k)) (s.2.2 0) (s.2.2 1) (s.2.2 2)) (As := [.ref (q 30), .ref (q 31), .int (l6)]) [30, 31, 32] (by decide) rfl ckL_may kwm_L_39 rfl ⟨rfl, rfl⟩ ⟨Nat.le_of_ble_eq_true rfl, Nat.le_of_ble_eq_true rfl⟩ ⟨Nat.zero_le _, Nat.zero_le _⟩ (Nat.le_of_ble_eq_true rfl) dL_choose_76 rfl (fun _ _ hf => kL_may (q := (fun k => q (30 + k))) (g := (s.2.2 0)) (b := (s.2.2 1)) (r := (s.2.2 2)) hf) (fun r2 => ?_)
            refine k_if_ne (pc := 79) 98 dL_choose_79 (by decide) ?_ ?_
            · refine k_fg7 ?_
              exact kL_choose_c98 kh3 hk3 s l1 l5 l6
            · exact kL_choose_c82 kh3 hk3 (fL_choose_c30 kh3 n) ih s l1 l5 l6 l7
noncomputable def fL_choose_c198 (s : k_S × k_S) : Option (Int32 × (k_S × k_S)) := k_z ((nI 1)) (some ((nI 1), s))
set_option maxRecDepth 100000 in
set_option maxHeartbeats 4000000 in
theorem kL_choose_c198 {X : k_C} {q : Nat → Nat} (s : k_S × k_S) : KO X YL_choose (cV 3 (k_I X) q) 0 0 (k_Q k_ei X (cV 3 (k_I X) q)) 198 [some (.ref (q 0)), none, some (.ref (q 30)), some (.ref (q 31)), some (.ref (q 32)), none, none, none] [] s (fL_choose_c198 s) := by
  unfold fL_choose_c198
  refine k_iconst (pc := 198) (v := (nI 1)) dL_choose_198 (by decide) ?_
  exact k_zreturn (pc := 199) rfl dL_choose_199
noncomputable def fL_choose_c3 : Nat → k_S × k_S → Int32 → Int32 → Option (Int32 × (k_S × k_S))
  | 0, _, _, _ => none
  | n + 1, s, l1, l5 => k_gd ((nI 0)) 34 ((if l5 < s.2.2 0 (Int32.toNatClampNeg ((nI 0))) then k_gd ((nI 1)) 34 (k_oq (fL_some (((l1 : Int32) >>> ((((nI 2) * l5) : Int32) &&& 31))) ((s.2.2 0 (Int32.toNatClampNeg ((nI 1))) + (nI 1)))) fun r1 => k_bn (r1) fun v2 => k_bn ((nI 0)) fun v3 => fL_choose_c30 (fL_choose_c3 n) k_F s l1 l5 v2 v3) else fL_choose_c198 s))
theorem fL_choose_c3_s (n : Nat) (s : k_S × k_S) (l1 l5 : Int32) : fL_choose_c3 (n + 1) s l1 l5 = k_gd ((nI 0)) 34 ((if l5 < s.2.2 0 (Int32.toNatClampNeg ((nI 0))) then k_gd ((nI 1)) 34 (k_oq (fL_some (((l1 : Int32) >>> ((((nI 2) * l5) : Int32) &&& 31))) ((s.2.2 0 (Int32.toNatClampNeg ((nI 1))) + (nI 1)))) fun r1 => k_bn (r1) fun v2 => k_bn ((nI 0)) fun v3 => fL_choose_c30 (fL_choose_c3 n) k_F s l1 l5 v2 v3) else fL_choose_c198 s)) := rfl
set_option maxRecDepth 100000 in
set_option maxHeartbeats 4000000 in
theorem kL_choose_c3 {X : k_C} {q : Nat → Nat} : ∀ (n : Nat) (s : k_S × k_S) (l1 l5 : Int32), KO X YL_choose (cV 3 (k_I X) q) 0 0 (k_Q k_ei X (cV 3 (k_I X) q)) 3 [some (.ref (q 0)), some (.int l1), some (.ref (q 30)), some (.ref (q 31)), some (.ref (q 32)), some (.int l5), none, none] [] s (fL_choose_c3 n s l1 l5) := by
  intro n
  induction n with
  | zero => intros; exact KO.nil
  | succ n ih =>
    intro s l1 l5
    rw [fL_choose_c3_s]
    refine k_iload (pc := 3) dL_choose_3 rfl ?_
    refine k_aload_n (pc := 5) dL_choose_5 rfl ?_
    refine k_iconst (pc := 6) (v := (nI 0)) dL_choose_6 (by decide) ?_
    refine k_lV3_0 (pc := 7) dL_choose_7 ?_
    refine k_icmp_ge (pc := 8) 198 dL_choose_8 (by decide) ?_ ?_
    · refine k_fg1 ?_
      refine k_fg5 ?_
      exact kL_choose_c198 s
    · refine k_iload_n (pc := 11) dL_choose_11 rfl ?_
      refine k_iconst (pc := 12) (v := (nI 2)) dL_choose_12 (by decide) ?_
      refine k_iload (pc := 13) dL_choose_13 rfl ?_
      refine k_imul (pc := 15) dL_choose_15 ?_
      refine k_ishr (pc := 16) dL_choose_16 ?_
      refine k_aload_n (pc := 17) dL_choose_17 rfl ?_
      refine k_iconst (pc := 18) (v := (nI 1)) dL_choose_18 (by decide) ?_
      refine k_lV3_0 (pc := 19) dL_choose_19 ?_
      refine k_iconst (pc := 20) (v := (nI 1)) dL_choose_20 (by decide) ?_
      refine k_iadd (pc := 21) dL_choose_21 ?_
      refine k_cq (pc := 22) (n := 2) (W0 := ([] : va_W)) (As := [.int (((l1 : Int32) >>> ((((nI 2) * l5) : Int32) &&& 31))), .int ((s.2.2 0 (Int32.toNatClampNeg ((nI 1))) + (nI 1)))]) [] (by decide) rfl ckL_some kwm_L_15 rfl ⟨rfl, rfl⟩ ⟨Nat.le_of_ble_eq_true rfl, Nat.le_of_ble_eq_true rfl⟩ ⟨Nat.zero_le _, Nat.zero_le _⟩ (Nat.le_of_ble_eq_true rfl) dL_choose_22 rfl (fun _ _ hf => kL_some hf) (fun r1 => ?_)
      refine k_ist6 (pc := 25) dL_choose_25 (Nat.le_of_ble_eq_true rfl) (fun v2 => ?_)
      refine k_iconst (pc := 27) (v := (nI 0)) dL_choose_27 (by decide) ?_
      refine k_ist7 (pc := 28) dL_choose_28 (Nat.le_of_ble_eq_true rfl) (fun v3 => ?_)
      exact kL_choose_c30 (fL_choose_c3 n) ih k_F s l1 l5 v2 v3
noncomputable def fL_choose (s : k_S × k_S) (x1 : Int32) : Option (Int32 × (k_S × k_S)) := k_bn ((nI 0)) fun v1 => fL_choose_c3 k_F s x1 v1
set_option maxRecDepth 100000 in
set_option maxHeartbeats 4000000 in
theorem kL_choose {D : va_G} {cI : ClassId} {q : Nat → Nat} {s : k_S × k_S} {x1 : Int32} {r0 : Int32} {τ : k_S × k_S} (h : fL_choose s x1 = some (r0, τ)) : k_Ct k_ei yL_choose cL_choose 8 (some .boolean) rmL_choose (cV 3 cI q) D cI [.ref (q 0), .int x1, .ref (q 30), .ref (q 31), .ref (q 32)] s r0 τ := by
  refine k_met (Y := YL_choose) (cV_same _ _ _) (by decide) rfl (Nat.le_of_ble_eq_true rfl) (List.forall_mem_cons.mpr ⟨rfl, List.forall_mem_cons.mpr ⟨rfl, List.forall_mem_cons.mpr ⟨rfl, List.forall_mem_cons.mpr ⟨rfl, List.forall_mem_cons.mpr ⟨rfl, fun _ h => absurd h List.not_mem_nil⟩⟩⟩⟩⟩) (fun X hD hI => ?_) h
  subst hD hI
  show KO X YL_choose (cV 3 (k_I X) q) 0 0 (k_Q k_ei X (cV 3 (k_I X) q)) 0 [some (.ref (q 0)), some (.int x1), some (.ref (q 30)), some (.ref (q 31)), some (.ref (q 32)), none, none, none] [] s _
  unfold fL_choose
  refine k_iconst (pc := 0) (v := (nI 0)) dL_choose_0 (by decide) ?_
  refine k_ist5 (pc := 1) dL_choose_1 (Nat.le_of_ble_eq_true rfl) (fun v1 => ?_)
  exact kL_choose_c3 k_F s x1 v1
