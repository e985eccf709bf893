def lawX (E : Ev) (Ln : Nat) (xs : Nat → Int32) : Array Value → State → Prop := fun args s => args = #[Value.ref (ad E 1100)] ∧ va_X (ad E 1100) Ln xs s s.heap ∧ ad E 1100 < s.heap.size ∧ eZ E = s.heap.size
def lwZ : List Frame → Array Value → State → State → Prop := fun below args s => lw_Z below args s
theorem GRm_b {R : MR} (h : GRm R) : GRm (u2 R 312 2 (some 1)) := by
  intro q hq h3
  rw [u2_ne (by omega)]
  exact h q hq h3
section LAWR
variable {E : Ev} {l : Launch} {rm : Room} {y : MethodName} {cc : ByteArray} {nL : Nat} {ret' : Option FieldType} {Zf : List Frame → Array Value → State → State → Prop} {pc : Nat} {ls : List (Nat × Value)} {st : List Value} {n : Nat} {I : MI} {L : ML} {R : MR} {cl sl Ln : Nat} {xs : Nat → Int32}
theorem x_sld {j : Int32} (hd : decode cc pc = .ok (.iaload, 1)) (hj : vp_in j Ln) (h : X E l rm y cc nL ret' (lawX E Ln xs) Zf (pc + 1) ls (.int (xs (ix j)) :: st) n I L R cl sl) : X E l rm y cc nL ret' (lawX E Ln xs) Zf pc ls (.int j :: .ref 1100 :: st) n I L R cl sl := by
  intro p e s m args below meth c hC H locs la hD hl
  obtain ⟨-, hX, hb, hz⟩ := hC.xt
  exact va_sld hC.1 hC.2.1 hX hb (fun q => by unfold eF at q; omega) hD.S hj hd (h p e s m args below meth c hC H locs la hD hl)
theorem x_slen (hd : decode cc pc = .ok (.arraylength, 1)) (h : X E l rm y cc nL ret' (lawX E Ln xs) Zf (pc + 1) ls (.int (Int32.ofNat Ln) :: st) n I L R cl sl) : X E l rm y cc nL ret' (lawX E Ln xs) Zf pc ls (.ref 1100 :: st) n I L R cl sl := by
  intro p e s m args below meth c hC H locs la hD hl
  obtain ⟨-, hX, hb, hz⟩ := hC.xt
  exact va_slen hC.1 hC.2.1 hX hb (fun q => by unfold eF at q; omega) hD.S hd (h p e s m args below meth c hC H locs la hD hl)
theorem x_lawret (hd : decode code pc = .ok (.ireturn, 1)) (hc : cl ≤ 600000) (hs : sl ≤ 7302250) : X E l room_1 y code nL ret (lawX E Ln xs) lwZ pc ls [.int 1] n I L R cl sl := by
  intro p e s m args below meth c hC H locs la hD hl
  obtain ⟨rfl, hX, hb, hz⟩ := hC.xt
  refine va_forget (fun q hq => by have := hD.S.2.2 q hq; unfold eF at this; omega) ?_
  refine W.widen (k := 600000) (n := 7302250) hc hs ?_
  exact lw_ret hC.1 hC.2.1 hC.2.2.1 hC.lk hd
end LAWR
def cs_0 (Ln : Nat) (xs : Nat → Int32) (v3 : Int32) (I : MI) (L : ML) (K : MI → ML → Prop) : Prop :=
    (vp_in (v3 + 1) Ln ∧ (vp_in (v3 + 2) Ln ∧ (vp_in (v3 + 3) Ln ∧ (vp_in (v3 + 4) Ln ∧ (vp_in (v3 + 5) Ln ∧ (wp_X9_feed I (xs (ix (v3 + 1))) (xs (ix (v3 + 2))) (xs (ix (v3 + 3))) (xs (ix (v3 + 4))) (xs (ix (v3 + 5))) (fun x6 I7 => ((vp_in (v3 + 1) Ln ∧ (vp_in (v3 + 2) Ln ∧ (vp_in (v3 + 3) Ln ∧ (vp_in (v3 + 4) Ln ∧ (vp_in (v3 + 5) Ln ∧ (wp_X10_feed I7 (xs (ix (v3 + 1))) (xs (ix (v3 + 2))) (xs (ix (v3 + 3))) (xs (ix (v3 + 4))) (xs (ix (v3 + 5))) (fun x13 I14 => (((x6 = x13 → K I14 L) ∧ (¬ x6 = x13 → False))))))))))))))))))
set_option maxRecDepth 20000 in
theorem cst_0 {E : Ev} {l : Launch} {Ln : Nat} {xs : Nat → Int32} {R : MR} (hGx : GRx R) (hGm : GRm R) {v3 : Int32} {I : MI} {L : ML} {K : MI → ML → Prop}
    (hK : ∀ (I : MI) (L : ML) (R : MR), GRx R → GRm R → K I L → X E l room_1 yL_law code 4 ret (lawX E Ln xs) lwZ 1488 [(0, .ref 1100), (1, .ref 0), (2, .ref 336), (3, .int v3)] [] 349 I L R 349 50368) (h : cs_0 Ln xs v3 I L K) : X E l room_1 yL_law code 4 ret (lawX E Ln xs) lwZ 208 [(0, .ref 1100), (1, .ref 0), (2, .ref 336), (3, .int v3)] [] 349 I L R 349 50368 := by
  unfold cs_0 at h
  refine x_aload_n dL_law_208 rfl ?_
  refine x_aload_n dL_law_209 rfl ?_
  refine x_iload_n dL_law_210 rfl ?_
  refine x_iconst (v := 1) dL_law_211 ki_1 ?_
  refine x_iadd dL_law_212 ?_
  obtain ⟨b1, h⟩ := h
  refine x_sld dL_law_213 b1 ?_
  refine x_aload_n dL_law_214 rfl ?_
  refine x_iload_n dL_law_215 rfl ?_
  refine x_iconst (v := 2) dL_law_216 ki_2 ?_
  refine x_iadd dL_law_217 ?_
  obtain ⟨b2, h⟩ := h
  refine x_sld dL_law_218 b2 ?_
  refine x_aload_n dL_law_219 rfl ?_
  refine x_iload_n dL_law_220 rfl ?_
  refine x_iconst (v := 3) dL_law_221 ki_3 ?_
  refine x_iadd dL_law_222 ?_
  obtain ⟨b3, h⟩ := h
  refine x_sld dL_law_223 b3 ?_
  refine x_aload_n dL_law_224 rfl ?_
  refine x_iload_n dL_law_225 rfl ?_
  refine x_iconst (v := 4) dL_law_226 ki_4 ?_
  refine x_iadd dL_law_227 ?_
  obtain ⟨b4, h⟩ := h
  refine x_sld dL_law_228 b4 ?_
  refine x_aload_n dL_law_229 rfl ?_
  refine x_iload_n dL_law_230 rfl ?_
  refine x_iconst (v := 5) dL_law_231 ki_5 ?_
  refine x_iadd dL_law_232 ?_
  obtain ⟨b5, h⟩ := h
  refine x_sld dL_law_233 b5 ?_
  refine x_cVi10 [.int (xs (ix (v3 + 1))), .int (xs (ix (v3 + 2))), .int (xs (ix (v3 + 3))), .int (xs (ix (v3 + 4))), .int (xs (ix (v3 + 5)))] (mt_X9_feed (Nat.le_of_ble_eq_true rfl) hGx h) dL_law_234 lk_RL_13 (Nat.le_of_ble_eq_true rfl) sh_0 rfl rfl (Nat.le_of_ble_eq_true rfl) (Rf_of rfl) (fun x6 I7 h => ?_)
  refine x_aload_n dL_law_237 rfl ?_
  refine x_aload_n dL_law_238 rfl ?_
  refine x_iload_n dL_law_239 rfl ?_
  refine x_iconst (v := 1) dL_law_240 ki_1 ?_
  refine x_iadd dL_law_241 ?_
  obtain ⟨b8, h⟩ := h
  refine x_sld dL_law_242 b8 ?_
  refine x_aload_n dL_law_243 rfl ?_
  refine x_iload_n dL_law_244 rfl ?_
  refine x_iconst (v := 2) dL_law_245 ki_2 ?_
  refine x_iadd dL_law_246 ?_
  obtain ⟨b9, h⟩ := h
  refine x_sld dL_law_247 b9 ?_
  refine x_aload_n dL_law_248 rfl ?_
  refine x_iload_n dL_law_249 rfl ?_
  refine x_iconst (v := 3) dL_law_250 ki_3 ?_
  refine x_iadd dL_law_251 ?_
  obtain ⟨b10, h⟩ := h
  refine x_sld dL_law_252 b10 ?_
  refine x_aload_n dL_law_253 rfl ?_
  refine x_iload_n dL_law_254 rfl ?_
  refine x_iconst (v := 4) dL_law_255 ki_4 ?_
  refine x_iadd dL_law_256 ?_
  obtain ⟨b11, h⟩ := h
  refine x_sld dL_law_257 b11 ?_
  refine x_aload_n dL_law_258 rfl ?_
  refine x_iload_n dL_law_259 rfl ?_
  refine x_iconst (v := 5) dL_law_260 ki_5 ?_
  refine x_iadd dL_law_261 ?_
  obtain ⟨b12, h⟩ := h
  refine x_sld dL_law_262 b12 ?_
  refine x_cVi10 [.int (xs (ix (v3 + 1))), .int (xs (ix (v3 + 2))), .int (xs (ix (v3 + 3))), .int (xs (ix (v3 + 4))), .int (xs (ix (v3 + 5)))] (mt_X10_feed (Nat.le_refl 349) hGm h) dL_law_263 lk_RL_17 (Nat.le_of_ble_eq_true rfl) sh_336 rfl rfl (Nat.le_of_ble_eq_true rfl) (Rf_of rfl) (fun x13 I14 h => ?_)
  refine x_icmp_eq dL_law_266 (tgt := 1488) rfl ⟨fun c15 => ?_, fun c15 => ?_⟩
  · have h := h.1 c15
    exact hK I14 L _ hGx hGm h
  · have h := h.2 c15
    exact False.elim h
def cs_1 (Ln : Nat) (xs : Nat → Int32) (v3 : Int32) (I : MI) (L : ML) (K : MI → ML → Prop) : Prop :=
    (vp_in (v3 + 1) Ln ∧ (wp_X9_back I (xs (ix (v3 + 1))) (fun x2 I3 => ((vp_in (v3 + 1) Ln ∧ (wp_X10_back I3 (xs (ix (v3 + 1))) (fun x5 I6 => (((x2 = x5 → K I6 L) ∧ (¬ x2 = x5 → False))))))))))
set_option maxRecDepth 20000 in
theorem cst_1 {E : Ev} {l : Launch} {Ln : Nat} {xs : Nat → Int32} {R : MR} (hGx : GRx R) (hGm : GRm R) {v3 : Int32} {I : MI} {L : ML} {K : MI → ML → Prop}
    (hK : ∀ (I : MI) (L : ML) (R : MR), GRx R → GRm R → K I L → X E l room_1 yL_law code 4 ret (lawX E Ln xs) lwZ 1488 [(0, .ref 1100), (1, .ref 0), (2, .ref 336), (3, .int v3)] [] 349 I L R 349 50368) (h : cs_1 Ln xs v3 I L K) : X E l room_1 yL_law code 4 ret (lawX E Ln xs) lwZ 271 [(0, .ref 1100), (1, .ref 0), (2, .ref 336), (3, .int v3)] [] 349 I L R 349 50368 := by
  unfold cs_1 at h
  refine x_aload_n dL_law_271 rfl ?_
  refine x_aload_n dL_law_272 rfl ?_
  refine x_iload_n dL_law_273 rfl ?_
  refine x_iconst (v := 1) dL_law_274 ki_1 ?_
  refine x_iadd dL_law_275 ?_
  obtain ⟨b1, h⟩ := h
  refine x_sld dL_law_276 b1 ?_
  refine x_cVi10 [.int (xs (ix (v3 + 1)))] (mt_X9_back (Nat.le_of_ble_eq_true rfl) hGx h) dL_law_277 lk_RL_18 (Nat.le_of_ble_eq_true rfl) sh_0 rfl rfl (Nat.le_of_ble_eq_true rfl) (Rf_of rfl) (fun x2 I3 h => ?_)
  refine x_aload_n dL_law_280 rfl ?_
  refine x_aload_n dL_law_281 rfl ?_
  refine x_iload_n dL_law_282 rfl ?_
  refine x_iconst (v := 1) dL_law_283 ki_1 ?_
  refine x_iadd dL_law_284 ?_
  obtain ⟨b4, h⟩ := h
  refine x_sld dL_law_285 b4 ?_
  refine x_cVi10 [.int (xs (ix (v3 + 1)))] (mt_X10_back (Nat.le_refl 349) hGm h) dL_law_286 lk_RL_22 (Nat.le_of_ble_eq_true rfl) sh_336 rfl rfl (Nat.le_of_ble_eq_true rfl) (Rf_of rfl) (fun x5 I6 h => ?_)
  refine x_icmp_eq dL_law_289 (tgt := 1488) rfl ⟨fun c7 => ?_, fun c7 => ?_⟩
  · have h := h.1 c7
    exact hK I6 L _ hGx hGm h
  · have h := h.2 c7
    exact False.elim h
def cs_2 (Ln : Nat) (xs : Nat → Int32) (v3 : Int32) (I : MI) (L : ML) (K : MI → ML → Prop) : Prop :=
    (wp_X9_text I (fun x1 I2 => ((wp_X10_text I2 (fun x3 I4 => (((x1 = x3 → K I4 L) ∧ (¬ x1 = x3 → False))))))))
set_option maxRecDepth 20000 in
theorem cst_2 {E : Ev} {l : Launch} {Ln : Nat} {xs : Nat → Int32} {R : MR} (hGx : GRx R) (hGm : GRm R) {v3 : Int32} {I : MI} {L : ML} {K : MI → ML → Prop}
    (hK : ∀ (I : MI) (L : ML) (R : MR), GRx R → GRm R → K I L → X E l room_1 yL_law code 4 ret (lawX E Ln xs) lwZ 1488 [(0, .ref 1100), (1, .ref 0), (2, .ref 336), (3, .int v3)] [] 349 I L R 349 50368) (h : cs_2 Ln xs v3 I L K) : X E l room_1 yL_law code 4 ret (lawX E Ln xs) lwZ 294 [(0, .ref 1100), (1, .ref 0), (2, .ref 336), (3, .int v3)] [] 349 I L R 349 50368 := by
  unfold cs_2 at h
  refine x_aload_n dL_law_294 rfl ?_
  refine x_cVi10 [] (mt_X9_text (Nat.le_of_ble_eq_true rfl) hGx h) dL_law_295 lk_RL_23 (Nat.le_of_ble_eq_true rfl) sh_0 rfl rfl (Nat.le_of_ble_eq_true rfl) (Rf_of rfl) (fun x1 I2 h => ?_)
  refine x_aload_n dL_law_298 rfl ?_
  refine x_cVi10 [] (mt_X10_text (Nat.le_refl 349) (GRm_b hGm) h) dL_law_299 lk_RL_27 (Nat.le_of_ble_eq_true rfl) sh_336 rfl rfl (Nat.le_of_ble_eq_true rfl) (Rf_of rfl) (fun x3 I4 h => ?_)
  refine x_icmp_eq dL_law_302 (tgt := 1488) rfl ⟨fun c5 => ?_, fun c5 => ?_⟩
  · have h := h.1 c5
    exact hK I4 L _ (GRx_b hGx) (GRm_b hGm) h
  · have h := h.2 c5
    exact False.elim h
def cs_3 (Ln : Nat) (xs : Nat → Int32) (v3 : Int32) (I : MI) (L : ML) (K : MI → ML → Prop) : Prop :=
    (vp_in (v3 + 1) Ln ∧ (vp_in (v3 + 2) Ln ∧ (wp_X9_breaks I L (xs (ix (v3 + 1))) (xs (ix (v3 + 2))) (fun x3 I4 L5 => ((vp_in (v3 + 1) Ln ∧ (vp_in (v3 + 2) Ln ∧ (wp_X10_breaks I4 (xs (ix (v3 + 1))) (xs (ix (v3 + 2))) (fun x8 I9 => (((x3 = x8 → K I9 L5) ∧ (¬ x3 = x8 → False))))))))))))
set_option maxRecDepth 20000 in
theorem cst_3 {E : Ev} {l : Launch} {Ln : Nat} {xs : Nat → Int32} {R : MR} (hGx : GRx R) (hGm : GRm R) {v3 : Int32} {I : MI} {L : ML} {K : MI → ML → Prop}
    (hK : ∀ (I : MI) (L : ML) (R : MR), GRx R → GRm R → K I L → X E l room_1 yL_law code 4 ret (lawX E Ln xs) lwZ 1488 [(0, .ref 1100), (1, .ref 0), (2, .ref 336), (3, .int v3)] [] 349 I L R 349 50368) (h : cs_3 Ln xs v3 I L K) : X E l room_1 yL_law code 4 ret (lawX E Ln xs) lwZ 307 [(0, .ref 1100), (1, .ref 0), (2, .ref 336), (3, .int v3)] [] 349 I L R 349 50368 := by
  unfold cs_3 at h
  refine x_aload_n dL_law_307 rfl ?_
  refine x_aload_n dL_law_308 rfl ?_
  refine x_iload_n dL_law_309 rfl ?_
  refine x_iconst (v := 1) dL_law_310 ki_1 ?_
  refine x_iadd dL_law_311 ?_
  obtain ⟨b1, h⟩ := h
  refine x_sld dL_law_312 b1 ?_
  refine x_aload_n dL_law_313 rfl ?_
  refine x_iload_n dL_law_314 rfl ?_
  refine x_iconst (v := 2) dL_law_315 ki_2 ?_
  refine x_iadd dL_law_316 ?_
  obtain ⟨b2, h⟩ := h
  refine x_sld dL_law_317 b2 ?_
  refine x_cVi11 [.int (xs (ix (v3 + 1))), .int (xs (ix (v3 + 2)))] (mt_X9_breaks (Nat.le_of_ble_eq_true rfl) hGx h) dL_law_318 lk_RL_28 (Nat.le_of_ble_eq_true rfl) sh_0 rfl rfl (Nat.le_of_ble_eq_true rfl) (Rf_of rfl) (fun x3 I4 L5 h => ?_)
  refine x_aload_n dL_law_321 rfl ?_
  refine x_aload_n dL_law_322 rfl ?_
  refine x_iload_n dL_law_323 rfl ?_
  refine x_iconst (v := 1) dL_law_324 ki_1 ?_
  refine x_iadd dL_law_325 ?_
  obtain ⟨b6, h⟩ := h
  refine x_sld dL_law_326 b6 ?_
  refine x_aload_n dL_law_327 rfl ?_
  refine x_iload_n dL_law_328 rfl ?_
  refine x_iconst (v := 2) dL_law_329 ki_2 ?_
  refine x_iadd dL_law_330 ?_
  obtain ⟨b7, h⟩ := h
  refine x_sld dL_law_331 b7 ?_
  refine x_cVi10 [.int (xs (ix (v3 + 1))), .int (xs (ix (v3 + 2)))] (mt_X10_breaks (Nat.le_refl 349) hGm h) dL_law_332 lk_RL_32 (Nat.le_of_ble_eq_true rfl) sh_336 rfl rfl (Nat.le_of_ble_eq_true rfl) (Rf_of rfl) (fun x8 I9 h => ?_)
  refine x_icmp_eq dL_law_335 (tgt := 1488) rfl ⟨fun c10 => ?_, fun c10 => ?_⟩
  · have h := h.1 c10
    exact hK I9 L5 _ hGx hGm h
  · have h := h.2 c10
    exact False.elim h
def cs_4 (Ln : Nat) (xs : Nat → Int32) (v3 : Int32) (I : MI) (L : ML) (K : MI → ML → Prop) : Prop :=
    (vp_in (v3 + 1) Ln ∧ (wp_X9_pass I L (xs (ix (v3 + 1))) (fun x2 I3 L4 => ((vp_in (v3 + 1) Ln ∧ (wp_X10_pass I3 (xs (ix (v3 + 1))) (fun x6 I7 => (((x2 = x6 → K I7 L4) ∧ (¬ x2 = x6 → False))))))))))
set_option maxRecDepth 20000 in
theorem cst_4 {E : Ev} {l : Launch} {Ln : Nat} {xs : Nat → Int32} {R : MR} (hGx : GRx R) (hGm : GRm R) {v3 : Int32} {I : MI} {L : ML} {K : MI → ML → Prop}
    (hK : ∀ (I : MI) (L : ML) (R : MR), GRx R → GRm R → K I L → X E l room_1 yL_law code 4 ret (lawX E Ln xs) lwZ 1488 [(0, .ref 1100), (1, .ref 0), (2, .ref 336), (3, .int v3)] [] 349 I L R 349 50368) (h : cs_4 Ln xs v3 I L K) : X E l room_1 yL_law code 4 ret (lawX E Ln xs) lwZ 340 [(0, .ref 1100), (1, .ref 0), (2, .ref 336), (3, .int v3)] [] 349 I L R 349 50368 := by
  unfold cs_4 at h
  refine x_aload_n dL_law_340 rfl ?_
  refine x_aload_n dL_law_341 rfl ?_
  refine x_iload_n dL_law_342 rfl ?_
  refine x_iconst (v := 1) dL_law_343 ki_1 ?_
  refine x_iadd dL_law_344 ?_
  obtain ⟨b1, h⟩ := h
  refine x_sld dL_law_345 b1 ?_
  refine x_cVi11 [.int (xs (ix (v3 + 1)))] (mt_X9_pass (Nat.le_of_ble_eq_true rfl) hGx h) dL_law_346 lk_RL_33 (Nat.le_of_ble_eq_true rfl) sh_0 rfl rfl (Nat.le_of_ble_eq_true rfl) (Rf_of rfl) (fun x2 I3 L4 h => ?_)
  refine x_aload_n dL_law_349 rfl ?_
  refine x_aload_n dL_law_350 rfl ?_
  refine x_iload_n dL_law_351 rfl ?_
  refine x_iconst (v := 1) dL_law_352 ki_1 ?_
  refine x_iadd dL_law_353 ?_
  obtain ⟨b5, h⟩ := h
  refine x_sld dL_law_354 b5 ?_
  refine x_cVi10 [.int (xs (ix (v3 + 1)))] (mt_X10_pass (Nat.le_refl 349) hGm h) dL_law_355 lk_RL_36 (Nat.le_of_ble_eq_true rfl) sh_336 rfl rfl (Nat.le_of_ble_eq_true rfl) (Rf_of rfl) (fun x6 I7 h => ?_)
  refine x_icmp_eq dL_law_358 (tgt := 1488) rfl ⟨fun c8 => ?_, fun c8 => ?_⟩
  · have h := h.1 c8
    exact hK I7 L4 _ hGx hGm h
  · have h := h.2 c8
    exact False.elim h
def cs_5 (Ln : Nat) (xs : Nat → Int32) (v3 : Int32) (I : MI) (L : ML) (K : MI → ML → Prop) : Prop :=
    (vp_in (v3 + 1) Ln ∧ (vp_in (v3 + 2) Ln ∧ (wp_X9_run I L (xs (ix (v3 + 1))) (xs (ix (v3 + 2))) (fun x3 I4 L5 => ((vp_in (v3 + 1) Ln ∧ (vp_in (v3 + 2) Ln ∧ (wp_X10_run I4 (xs (ix (v3 + 1))) (xs (ix (v3 + 2))) (fun x8 I9 => (((x3 = x8 → K I9 L5) ∧ (¬ x3 = x8 → False))))))))))))
set_option maxRecDepth 20000 in
theorem cst_5 {E : Ev} {l : Launch} {Ln : Nat} {xs : Nat → Int32} {R : MR} (hGx : GRx R) (hGm : GRm R) {v3 : Int32} {I : MI} {L : ML} {K : MI → ML → Prop}
    (hK : ∀ (I : MI) (L : ML) (R : MR), GRx R → GRm R → K I L → X E l room_1 yL_law code 4 ret (lawX E Ln xs) lwZ 1488 [(0, .ref 1100), (1, .ref 0), (2, .ref 336), (3, .int v3)] [] 349 I L R 349 50368) (h : cs_5 Ln xs v3 I L K) : X E l room_1 yL_law code 4 ret (lawX E Ln xs) lwZ 363 [(0, .ref 1100), (1, .ref 0), (2, .ref 336), (3, .int v3)] [] 349 I L R 349 50368 := by
  unfold cs_5 at h
  refine x_aload_n dL_law_363 rfl ?_
  refine x_aload_n dL_law_364 rfl ?_
  refine x_iload_n dL_law_365 rfl ?_
  refine x_iconst (v := 1) dL_law_366 ki_1 ?_
  refine x_iadd dL_law_367 ?_
  obtain ⟨b1, h⟩ := h
  refine x_sld dL_law_368 b1 ?_
  refine x_aload_n dL_law_369 rfl ?_
  refine x_iload_n dL_law_370 rfl ?_
  refine x_iconst (v := 2) dL_law_371 ki_2 ?_
  refine x_iadd dL_law_372 ?_
  obtain ⟨b2, h⟩ := h
  refine x_sld dL_law_373 b2 ?_
  refine x_cVi11 [.int (xs (ix (v3 + 1))), .int (xs (ix (v3 + 2)))] (mt_X9_run (Nat.le_of_ble_eq_true rfl) hGx h) dL_law_374 lk_RL_37 (Nat.le_of_ble_eq_true rfl) sh_0 rfl rfl (Nat.le_of_ble_eq_true rfl) (Rf_of rfl) (fun x3 I4 L5 h => ?_)
  refine x_aload_n dL_law_377 rfl ?_
  refine x_aload_n dL_law_378 rfl ?_
  refine x_iload_n dL_law_379 rfl ?_
  refine x_iconst (v := 1) dL_law_380 ki_1 ?_
  refine x_iadd dL_law_381 ?_
  obtain ⟨b6, h⟩ := h
  refine x_sld dL_law_382 b6 ?_
  refine x_aload_n dL_law_383 rfl ?_
  refine x_iload_n dL_law_384 rfl ?_
  refine x_iconst (v := 2) dL_law_385 ki_2 ?_
  refine x_iadd dL_law_386 ?_
  obtain ⟨b7, h⟩ := h
  refine x_sld dL_law_387 b7 ?_
  refine x_cVi10 [.int (xs (ix (v3 + 1))), .int (xs (ix (v3 + 2)))] (mt_X10_run (Nat.le_refl 349) hGm h) dL_law_388 lk_RL_40 (Nat.le_of_ble_eq_true rfl) sh_336 rfl rfl (Nat.le_of_ble_eq_true rfl) (Rf_of rfl) (fun x8 I9 h => ?_)
  refine x_icmp_eq dL_law_391 (tgt := 1488) rfl ⟨fun c10 => ?_, fun c10 => ?_⟩
  · have h := h.1 c10
    exact hK I9 L5 _ hGx hGm h
  · have h := h.2 c10
    exact False.elim h
def cs_6 (Ln : Nat) (xs : Nat → Int32) (v3 : Int32) (I : MI) (L : ML) (K : MI → ML → Prop) : Prop :=
    (vp_in (v3 + 1) Ln ∧ (vp_in (v3 + 2) Ln ∧ (wp_X9_buy I L (xs (ix (v3 + 1))) (xs (ix (v3 + 2))) (fun x3 I4 L5 => ((vp_in (v3 + 1) Ln ∧ (vp_in (v3 + 2) Ln ∧ (wp_X10_buy I4 (xs (ix (v3 + 1))) (xs (ix (v3 + 2))) (fun x8 I9 => (((x3 = x8 → K I9 L5) ∧ (¬ x3 = x8 → False))))))))))))
set_option maxRecDepth 20000 in
theorem cst_6 {E : Ev} {l : Launch} {Ln : Nat} {xs : Nat → Int32} {R : MR} (hGx : GRx R) (hGm : GRm R) {v3 : Int32} {I : MI} {L : ML} {K : MI → ML → Prop}
    (hK : ∀ (I : MI) (L : ML) (R : MR), GRx R → GRm R → K I L → X E l room_1 yL_law code 4 ret (lawX E Ln xs) lwZ 1488 [(0, .ref 1100), (1, .ref 0), (2, .ref 336), (3, .int v3)] [] 349 I L R 349 50368) (h : cs_6 Ln xs v3 I L K) : X E l room_1 yL_law code 4 ret (lawX E Ln xs) lwZ 396 [(0, .ref 1100), (1, .ref 0), (2, .ref 336), (3, .int v3)] [] 349 I L R 349 50368 := by
  unfold cs_6 at h
  refine x_aload_n dL_law_396 rfl ?_
  refine x_aload_n dL_law_397 rfl ?_
  refine x_iload_n dL_law_398 rfl ?_
  refine x_iconst (v := 1) dL_law_399 ki_1 ?_
  refine x_iadd dL_law_400 ?_
  obtain ⟨b1, h⟩ := h
  refine x_sld dL_law_401 b1 ?_
  refine x_aload_n dL_law_402 rfl ?_
  refine x_iload_n dL_law_403 rfl ?_
  refine x_iconst (v := 2) dL_law_404 ki_2 ?_
  refine x_iadd dL_law_405 ?_
  obtain ⟨b2, h⟩ := h
  refine x_sld dL_law_406 b2 ?_
  refine x_cVi11 [.int (xs (ix (v3 + 1))), .int (xs (ix (v3 + 2)))] (mt_X9_buy (Nat.le_of_ble_eq_true rfl) hGx h) dL_law_407 lk_RL_41 (Nat.le_of_ble_eq_true rfl) sh_0 rfl rfl (Nat.le_of_ble_eq_true rfl) (Rf_of rfl) (fun x3 I4 L5 h => ?_)
  refine x_aload_n dL_law_410 rfl ?_
  refine x_aload_n dL_law_411 rfl ?_
  refine x_iload_n dL_law_412 rfl ?_
  refine x_iconst (v := 1) dL_law_413 ki_1 ?_
  refine x_iadd dL_law_414 ?_
  obtain ⟨b6, h⟩ := h
  refine x_sld dL_law_415 b6 ?_
  refine x_aload_n dL_law_416 rfl ?_
  refine x_iload_n dL_law_417 rfl ?_
  refine x_iconst (v := 2) dL_law_418 ki_2 ?_
  refine x_iadd dL_law_419 ?_
  obtain ⟨b7, h⟩ := h
  refine x_sld dL_law_420 b7 ?_
  refine x_cVi10 [.int (xs (ix (v3 + 1))), .int (xs (ix (v3 + 2)))] (mt_X10_buy (Nat.le_refl 349) hGm h) dL_law_421 lk_RL_44 (Nat.le_of_ble_eq_true rfl) sh_336 rfl rfl (Nat.le_of_ble_eq_true rfl) (Rf_of rfl) (fun x8 I9 h => ?_)
  refine x_icmp_eq dL_law_424 (tgt := 1488) rfl ⟨fun c10 => ?_, fun c10 => ?_⟩
  · have h := h.1 c10
    exact hK I9 L5 _ hGx hGm h
  · have h := h.2 c10
    exact False.elim h
def cs_7 (Ln : Nat) (xs : Nat → Int32) (v3 : Int32) (I : MI) (L : ML) (K : MI → ML → Prop) : Prop :=
    (vp_in (v3 + 1) Ln ∧ (vp_in (v3 + 2) Ln ∧ (wp_X9_sell I L (xs (ix (v3 + 1))) (xs (ix (v3 + 2))) (fun x3 I4 L5 => ((vp_in (v3 + 1) Ln ∧ (vp_in (v3 + 2) Ln ∧ (wp_X10_sell I4 (xs (ix (v3 + 1))) (xs (ix (v3 + 2))) (fun x8 I9 => (((x3 = x8 → K I9 L5) ∧ (¬ x3 = x8 → False))))))))))))
set_option maxRecDepth 20000 in
theorem cst_7 {E : Ev} {l : Launch} {Ln : Nat} {xs : Nat → Int32} {R : MR} (hGx : GRx R) (hGm : GRm R) {v3 : Int32} {I : MI} {L : ML} {K : MI → ML → Prop}
    (hK : ∀ (I : MI) (L : ML) (R : MR), GRx R → GRm R → K I L → X E l room_1 yL_law code 4 ret (lawX E Ln xs) lwZ 1488 [(0, .ref 1100), (1, .ref 0), (2, .ref 336), (3, .int v3)] [] 349 I L R 349 50368) (h : cs_7 Ln xs v3 I L K) : X E l room_1 yL_law code 4 ret (lawX E Ln xs) lwZ 429 [(0, .ref 1100), (1, .ref 0), (2, .ref 336), (3, .int v3)] [] 349 I L R 349 50368 := by
  unfold cs_7 at h
  refine x_aload_n dL_law_429 rfl ?_
  refine x_aload_n dL_law_430 rfl ?_
  refine x_iload_n dL_law_431 rfl ?_
  refine x_iconst (v := 1) dL_law_432 ki_1 ?_
  refine x_iadd dL_law_433 ?_
  obtain ⟨b1, h⟩ := h
  refine x_sld dL_law_434 b1 ?_
  refine x_aload_n dL_law_435 rfl ?_
  refine x_iload_n dL_law_436 rfl ?_
  refine x_iconst (v := 2) dL_law_437 ki_2 ?_
  refine x_iadd dL_law_438 ?_
  obtain ⟨b2, h⟩ := h
  refine x_sld dL_law_439 b2 ?_
  refine x_cVi11 [.int (xs (ix (v3 + 1))), .int (xs (ix (v3 + 2)))] (mt_X9_sell (Nat.le_of_ble_eq_true rfl) hGx h) dL_law_440 lk_RL_45 (Nat.le_of_ble_eq_true rfl) sh_0 rfl rfl (Nat.le_of_ble_eq_true rfl) (Rf_of rfl) (fun x3 I4 L5 h => ?_)
  refine x_aload_n dL_law_443 rfl ?_
  refine x_aload_n dL_law_444 rfl ?_
  refine x_iload_n dL_law_445 rfl ?_
  refine x_iconst (v := 1) dL_law_446 ki_1 ?_
  refine x_iadd dL_law_447 ?_
  obtain ⟨b6, h⟩ := h
  refine x_sld dL_law_448 b6 ?_
  refine x_aload_n dL_law_449 rfl ?_
  refine x_iload_n dL_law_450 rfl ?_
  refine x_iconst (v := 2) dL_law_451 ki_2 ?_
  refine x_iadd dL_law_452 ?_
  obtain ⟨b7, h⟩ := h
  refine x_sld dL_law_453 b7 ?_
  refine x_cVi10 [.int (xs (ix (v3 + 1))), .int (xs (ix (v3 + 2)))] (mt_X10_sell (Nat.le_refl 349) hGm h) dL_law_454 lk_RL_48 (Nat.le_of_ble_eq_true rfl) sh_336 rfl rfl (Nat.le_of_ble_eq_true rfl) (Rf_of rfl) (fun x8 I9 h => ?_)
  refine x_icmp_eq dL_law_457 (tgt := 1488) rfl ⟨fun c10 => ?_, fun c10 => ?_⟩
  · have h := h.1 c10
    exact hK I9 L5 _ hGx hGm h
  · have h := h.2 c10
    exact False.elim h
def cs_8 (Ln : Nat) (xs : Nat → Int32) (v3 : Int32) (I : MI) (L : ML) (K : MI → ML → Prop) : Prop :=
    (vp_in (v3 + 1) Ln ∧ (wp_X9_supply I L (xs (ix (v3 + 1))) (fun x2 I3 L4 => ((vp_in (v3 + 1) Ln ∧ (wp_X10_supply I3 (xs (ix (v3 + 1))) (fun x6 I7 => (((x2 = x6 → K I7 L4) ∧ (¬ x2 = x6 → False))))))))))
set_option maxRecDepth 20000 in
theorem cst_8 {E : Ev} {l : Launch} {Ln : Nat} {xs : Nat → Int32} {R : MR} (hGx : GRx R) (hGm : GRm R) {v3 : Int32} {I : MI} {L : ML} {K : MI → ML → Prop}
    (hK : ∀ (I : MI) (L : ML) (R : MR), GRx R → GRm R → K I L → X E l room_1 yL_law code 4 ret (lawX E Ln xs) lwZ 1488 [(0, .ref 1100), (1, .ref 0), (2, .ref 336), (3, .int v3)] [] 349 I L R 349 50368) (h : cs_8 Ln xs v3 I L K) : X E l room_1 yL_law code 4 ret (lawX E Ln xs) lwZ 462 [(0, .ref 1100), (1, .ref 0), (2, .ref 336), (3, .int v3)] [] 349 I L R 349 50368 := by
  unfold cs_8 at h
  refine x_aload_n dL_law_462 rfl ?_
  refine x_aload_n dL_law_463 rfl ?_
  refine x_iload_n dL_law_464 rfl ?_
  refine x_iconst (v := 1) dL_law_465 ki_1 ?_
  refine x_iadd dL_law_466 ?_
  obtain ⟨b1, h⟩ := h
  refine x_sld dL_law_467 b1 ?_
  refine x_cVi11 [.int (xs (ix (v3 + 1)))] (mt_X9_supply (Nat.le_of_ble_eq_true rfl) hGx h) dL_law_468 lk_RL_49 (Nat.le_of_ble_eq_true rfl) sh_0 rfl rfl (Nat.le_of_ble_eq_true rfl) (Rf_of rfl) (fun x2 I3 L4 h => ?_)
  refine x_aload_n dL_law_471 rfl ?_
  refine x_aload_n dL_law_472 rfl ?_
  refine x_iload_n dL_law_473 rfl ?_
  refine x_iconst (v := 1) dL_law_474 ki_1 ?_
  refine x_iadd dL_law_475 ?_
  obtain ⟨b5, h⟩ := h
  refine x_sld dL_law_476 b5 ?_
  refine x_cVi10 [.int (xs (ix (v3 + 1)))] (mt_X10_supply (Nat.le_refl 349) hGm h) dL_law_477 lk_RL_52 (Nat.le_of_ble_eq_true rfl) sh_336 rfl rfl (Nat.le_of_ble_eq_true rfl) (Rf_of rfl) (fun x6 I7 h => ?_)
  refine x_icmp_eq dL_law_480 (tgt := 1488) rfl ⟨fun c8 => ?_, fun c8 => ?_⟩
  · have h := h.1 c8
    exact hK I7 L4 _ hGx hGm h
  · have h := h.2 c8
    exact False.elim h
def cs_9 (Ln : Nat) (xs : Nat → Int32) (v3 : Int32) (I : MI) (L : ML) (K : MI → ML → Prop) : Prop :=
    (vp_in (v3 + 1) Ln ∧ (vp_in (v3 + 2) Ln ∧ (vp_in (v3 + 3) Ln ∧ (wp_X9_set I L (xs (ix (v3 + 1))) (xs (ix (v3 + 2))) (xs (ix (v3 + 3))) (fun x4 I5 L6 => ((vp_in (v3 + 1) Ln ∧ (vp_in (v3 + 2) Ln ∧ (vp_in (v3 + 3) Ln ∧ (wp_X10_set I5 (xs (ix (v3 + 1))) (xs (ix (v3 + 2))) (xs (ix (v3 + 3))) (fun x10 I11 => (((x4 = x10 → K I11 L6) ∧ (¬ x4 = x10 → False))))))))))))))
set_option maxRecDepth 20000 in
theorem cst_9 {E : Ev} {l : Launch} {Ln : Nat} {xs : Nat → Int32} {R : MR} (hGx : GRx R) (hGm : GRm R) {v3 : Int32} {I : MI} {L : ML} {K : MI → ML → Prop}
    (hK : ∀ (I : MI) (L : ML) (R : MR), GRx R → GRm R → K I L → X E l room_1 yL_law code 4 ret (lawX E Ln xs) lwZ 1488 [(0, .ref 1100), (1, .ref 0), (2, .ref 336), (3, .int v3)] [] 349 I L R 349 50368) (h : cs_9 Ln xs v3 I L K) : X E l room_1 yL_law code 4 ret (lawX E Ln xs) lwZ 485 [(0, .ref 1100), (1, .ref 0), (2, .ref 336), (3, .int v3)] [] 349 I L R 349 50368 := by
  unfold cs_9 at h
  refine x_aload_n dL_law_485 rfl ?_
  refine x_aload_n dL_law_486 rfl ?_
  refine x_iload_n dL_law_487 rfl ?_
  refine x_iconst (v := 1) dL_law_488 ki_1 ?_
  refine x_iadd dL_law_489 ?_
  obtain ⟨b1, h⟩ := h
  refine x_sld dL_law_490 b1 ?_
  refine x_aload_n dL_law_491 rfl ?_
  refine x_iload_n dL_law_492 rfl ?_
  refine x_iconst (v := 2) dL_law_493 ki_2 ?_
  refine x_iadd dL_law_494 ?_
  obtain ⟨b2, h⟩ := h
  refine x_sld dL_law_495 b2 ?_
  refine x_aload_n dL_law_496 rfl ?_
  refine x_iload_n dL_law_497 rfl ?_
  refine x_iconst (v := 3) dL_law_498 ki_3 ?_
  refine x_iadd dL_law_499 ?_
  obtain ⟨b3, h⟩ := h
  refine x_sld dL_law_500 b3 ?_
  refine x_cVi11 [.int (xs (ix (v3 + 1))), .int (xs (ix (v3 + 2))), .int (xs (ix (v3 + 3)))] (mt_X9_set (Nat.le_of_ble_eq_true rfl) hGx h) dL_law_501 lk_RL_53 (Nat.le_of_ble_eq_true rfl) sh_0 rfl rfl (Nat.le_of_ble_eq_true rfl) (Rf_of rfl) (fun x4 I5 L6 h => ?_)
  refine x_aload_n dL_law_504 rfl ?_
  refine x_aload_n dL_law_505 rfl ?_
  refine x_iload_n dL_law_506 rfl ?_
  refine x_iconst (v := 1) dL_law_507 ki_1 ?_
  refine x_iadd dL_law_508 ?_
  obtain ⟨b7, h⟩ := h
  refine x_sld dL_law_509 b7 ?_
  refine x_aload_n dL_law_510 rfl ?_
  refine x_iload_n dL_law_511 rfl ?_
  refine x_iconst (v := 2) dL_law_512 ki_2 ?_
  refine x_iadd dL_law_513 ?_
  obtain ⟨b8, h⟩ := h
  refine x_sld dL_law_514 b8 ?_
  refine x_aload_n dL_law_515 rfl ?_
  refine x_iload_n dL_law_516 rfl ?_
  refine x_iconst (v := 3) dL_law_517 ki_3 ?_
  refine x_iadd dL_law_518 ?_
  obtain ⟨b9, h⟩ := h
  refine x_sld dL_law_519 b9 ?_
  refine x_cVi10 [.int (xs (ix (v3 + 1))), .int (xs (ix (v3 + 2))), .int (xs (ix (v3 + 3)))] (mt_X10_set (Nat.le_refl 349) hGm h) dL_law_520 lk_RL_57 (Nat.le_of_ble_eq_true rfl) sh_336 rfl rfl (Nat.le_of_ble_eq_true rfl) (Rf_of rfl) (fun x10 I11 h => ?_)
  refine x_icmp_eq dL_law_523 (tgt := 1488) rfl ⟨fun c12 => ?_, fun c12 => ?_⟩
  · have h := h.1 c12
    exact hK I11 L6 _ hGx hGm h
  · have h := h.2 c12
    exact False.elim h
def cs_10 (Ln : Nat) (xs : Nat → Int32) (v3 : Int32) (I : MI) (L : ML) (K : MI → ML → Prop) : Prop :=
    (vp_in (v3 + 1) Ln ∧ (vp_in (v3 + 2) Ln ∧ (vp_in (v3 + 3) Ln ∧ (wp_X9_odds I L (xs (ix (v3 + 1))) (xs (ix (v3 + 2))) (xs (ix (v3 + 3))) (fun x4 I5 L6 => ((vp_in (v3 + 1) Ln ∧ (vp_in (v3 + 2) Ln ∧ (vp_in (v3 + 3) Ln ∧ (wp_X10_odds I5 (xs (ix (v3 + 1))) (xs (ix (v3 + 2))) (xs (ix (v3 + 3))) (fun x10 I11 => (((x4 = x10 → K I11 L6) ∧ (¬ x4 = x10 → False))))))))))))))
set_option maxRecDepth 20000 in
theorem cst_10 {E : Ev} {l : Launch} {Ln : Nat} {xs : Nat → Int32} {R : MR} (hGx : GRx R) (hGm : GRm R) {v3 : Int32} {I : MI} {L : ML} {K : MI → ML → Prop}
    (hK : ∀ (I : MI) (L : ML) (R : MR), GRx R → GRm R → K I L → X E l room_1 yL_law code 4 ret (lawX E Ln xs) lwZ 1488 [(0, .ref 1100), (1, .ref 0), (2, .ref 336), (3, .int v3)] [] 349 I L R 349 50368) (h : cs_10 Ln xs v3 I L K) : X E l room_1 yL_law code 4 ret (lawX E Ln xs) lwZ 528 [(0, .ref 1100), (1, .ref 0), (2, .ref 336), (3, .int v3)] [] 349 I L R 349 50368 := by
  unfold cs_10 at h
  refine x_aload_n dL_law_528 rfl ?_
  refine x_aload_n dL_law_529 rfl ?_
  refine x_iload_n dL_law_530 rfl ?_
  refine x_iconst (v := 1) dL_law_531 ki_1 ?_
  refine x_iadd dL_law_532 ?_
  obtain ⟨b1, h⟩ := h
  refine x_sld dL_law_533 b1 ?_
  refine x_aload_n dL_law_534 rfl ?_
  refine x_iload_n dL_law_535 rfl ?_
  refine x_iconst (v := 2) dL_law_536 ki_2 ?_
  refine x_iadd dL_law_537 ?_
  obtain ⟨b2, h⟩ := h
  refine x_sld dL_law_538 b2 ?_
  refine x_aload_n dL_law_539 rfl ?_
  refine x_iload_n dL_law_540 rfl ?_
  refine x_iconst (v := 3) dL_law_541 ki_3 ?_
  refine x_iadd dL_law_542 ?_
  obtain ⟨b3, h⟩ := h
  refine x_sld dL_law_543 b3 ?_
  refine x_cVi11 [.int (xs (ix (v3 + 1))), .int (xs (ix (v3 + 2))), .int (xs (ix (v3 + 3)))] (mt_X9_odds (Nat.le_of_ble_eq_true rfl) hGx h) dL_law_544 lk_RL_58 (Nat.le_of_ble_eq_true rfl) sh_0 rfl rfl (Nat.le_of_ble_eq_true rfl) (Rf_of rfl) (fun x4 I5 L6 h => ?_)
  refine x_aload_n dL_law_547 rfl ?_
  refine x_aload_n dL_law_548 rfl ?_
  refine x_iload_n dL_law_549 rfl ?_
  refine x_iconst (v := 1) dL_law_550 ki_1 ?_
  refine x_iadd dL_law_551 ?_
  obtain ⟨b7, h⟩ := h
  refine x_sld dL_law_552 b7 ?_
  refine x_aload_n dL_law_553 rfl ?_
  refine x_iload_n dL_law_554 rfl ?_
  refine x_iconst (v := 2) dL_law_555 ki_2 ?_
  refine x_iadd dL_law_556 ?_
  obtain ⟨b8, h⟩ := h
  refine x_sld dL_law_557 b8 ?_
  refine x_aload_n dL_law_558 rfl ?_
  refine x_iload_n dL_law_559 rfl ?_
  refine x_iconst (v := 3) dL_law_560 ki_3 ?_
  refine x_iadd dL_law_561 ?_
  obtain ⟨b9, h⟩ := h
  refine x_sld dL_law_562 b9 ?_
  refine x_cVi10 [.int (xs (ix (v3 + 1))), .int (xs (ix (v3 + 2))), .int (xs (ix (v3 + 3)))] (mt_X10_odds (Nat.le_refl 349) hGm h) dL_law_563 lk_RL_61 (Nat.le_of_ble_eq_true rfl) sh_336 rfl rfl (Nat.le_of_ble_eq_true rfl) (Rf_of rfl) (fun x10 I11 h => ?_)
  refine x_icmp_eq dL_law_566 (tgt := 1488) rfl ⟨fun c12 => ?_, fun c12 => ?_⟩
  · have h := h.1 c12
    exact hK I11 L6 _ hGx hGm h
  · have h := h.2 c12
    exact False.elim h
def cs_11 (Ln : Nat) (xs : Nat → Int32) (v3 : Int32) (I : MI) (L : ML) (K : MI → ML → Prop) : Prop :=
    (vp_in (v3 + 1) Ln ∧ (wp_X9_benches I L (xs (ix (v3 + 1))) (fun x2 I3 L4 => ((vp_in (v3 + 1) Ln ∧ (wp_X10_benches I3 (xs (ix (v3 + 1))) (fun x6 I7 => (((x2 = x6 → K I7 L4) ∧ (¬ x2 = x6 → False))))))))))
set_option maxRecDepth 20000 in
theorem cst_11 {E : Ev} {l : Launch} {Ln : Nat} {xs : Nat → Int32} {R : MR} (hGx : GRx R) (hGm : GRm R) {v3 : Int32} {I : MI} {L : ML} {K : MI → ML → Prop}
    (hK : ∀ (I : MI) (L : ML) (R : MR), GRx R → GRm R → K I L → X E l room_1 yL_law code 4 ret (lawX E Ln xs) lwZ 1488 [(0, .ref 1100), (1, .ref 0), (2, .ref 336), (3, .int v3)] [] 349 I L R 349 50368) (h : cs_11 Ln xs v3 I L K) : X E l room_1 yL_law code 4 ret (lawX E Ln xs) lwZ 571 [(0, .ref 1100), (1, .ref 0), (2, .ref 336), (3, .int v3)] [] 349 I L R 349 50368 := by
  unfold cs_11 at h
  refine x_aload_n dL_law_571 rfl ?_
  refine x_aload_n dL_law_572 rfl ?_
  refine x_iload_n dL_law_573 rfl ?_
  refine x_iconst (v := 1) dL_law_574 ki_1 ?_
  refine x_iadd dL_law_575 ?_
  obtain ⟨b1, h⟩ := h
  refine x_sld dL_law_576 b1 ?_
  refine x_cVi11 [.int (xs (ix (v3 + 1)))] (mt_X9_benches (Nat.le_of_ble_eq_true rfl) hGx h) dL_law_577 lk_RL_62 (Nat.le_of_ble_eq_true rfl) sh_0 rfl rfl (Nat.le_of_ble_eq_true rfl) (Rf_of rfl) (fun x2 I3 L4 h => ?_)
  refine x_aload_n dL_law_580 rfl ?_
  refine x_aload_n dL_law_581 rfl ?_
  refine x_iload_n dL_law_582 rfl ?_
  refine x_iconst (v := 1) dL_law_583 ki_1 ?_
  refine x_iadd dL_law_584 ?_
  obtain ⟨b5, h⟩ := h
  refine x_sld dL_law_585 b5 ?_
  refine x_cVi10 [.int (xs (ix (v3 + 1)))] (mt_X10_benches (Nat.le_refl 349) hGm h) dL_law_586 lk_RL_65 (Nat.le_of_ble_eq_true rfl) sh_336 rfl rfl (Nat.le_of_ble_eq_true rfl) (Rf_of rfl) (fun x6 I7 h => ?_)
  refine x_icmp_eq dL_law_589 (tgt := 1488) rfl ⟨fun c8 => ?_, fun c8 => ?_⟩
  · have h := h.1 c8
    exact hK I7 L4 _ hGx hGm h
  · have h := h.2 c8
    exact False.elim h
def cs_12 (Ln : Nat) (xs : Nat → Int32) (v3 : Int32) (I : MI) (L : ML) (K : MI → ML → Prop) : Prop :=
    (vp_in (v3 + 1) Ln ∧ (wp_X9_keep I L (xs (ix (v3 + 1))) (fun x2 I3 L4 => ((vp_in (v3 + 1) Ln ∧ (wp_X10_keep I3 (xs (ix (v3 + 1))) (fun x6 I7 => (((x2 = x6 → K I7 L4) ∧ (¬ x2 = x6 → False))))))))))
set_option maxRecDepth 20000 in
theorem cst_12 {E : Ev} {l : Launch} {Ln : Nat} {xs : Nat → Int32} {R : MR} (hGx : GRx R) (hGm : GRm R) {v3 : Int32} {I : MI} {L : ML} {K : MI → ML → Prop}
    (hK : ∀ (I : MI) (L : ML) (R : MR), GRx R → GRm R → K I L → X E l room_1 yL_law code 4 ret (lawX E Ln xs) lwZ 1488 [(0, .ref 1100), (1, .ref 0), (2, .ref 336), (3, .int v3)] [] 349 I L R 349 50368) (h : cs_12 Ln xs v3 I L K) : X E l room_1 yL_law code 4 ret (lawX E Ln xs) lwZ 594 [(0, .ref 1100), (1, .ref 0), (2, .ref 336), (3, .int v3)] [] 349 I L R 349 50368 := by
  unfold cs_12 at h
  refine x_aload_n dL_law_594 rfl ?_
  refine x_aload_n dL_law_595 rfl ?_
  refine x_iload_n dL_law_596 rfl ?_
  refine x_iconst (v := 1) dL_law_597 ki_1 ?_
  refine x_iadd dL_law_598 ?_
  obtain ⟨b1, h⟩ := h
  refine x_sld dL_law_599 b1 ?_
  refine x_cVi11 [.int (xs (ix (v3 + 1)))] (mt_X9_keep (Nat.le_of_ble_eq_true rfl) hGx h) dL_law_600 lk_RL_66 (Nat.le_of_ble_eq_true rfl) sh_0 rfl rfl (Nat.le_of_ble_eq_true rfl) (Rf_of rfl) (fun x2 I3 L4 h => ?_)
  refine x_aload_n dL_law_603 rfl ?_
  refine x_aload_n dL_law_604 rfl ?_
  refine x_iload_n dL_law_605 rfl ?_
  refine x_iconst (v := 1) dL_law_606 ki_1 ?_
  refine x_iadd dL_law_607 ?_
  obtain ⟨b5, h⟩ := h
  refine x_sld dL_law_608 b5 ?_
  refine x_cVi10 [.int (xs (ix (v3 + 1)))] (mt_X10_keep (Nat.le_refl 349) hGm h) dL_law_609 lk_RL_69 (Nat.le_of_ble_eq_true rfl) sh_336 rfl rfl (Nat.le_of_ble_eq_true rfl) (Rf_of rfl) (fun x6 I7 h => ?_)
  refine x_icmp_eq dL_law_612 (tgt := 1488) rfl ⟨fun c8 => ?_, fun c8 => ?_⟩
  · have h := h.1 c8
    exact hK I7 L4 _ hGx hGm h
  · have h := h.2 c8
    exact False.elim h
def cs_13 (Ln : Nat) (xs : Nat → Int32) (v3 : Int32) (I : MI) (L : ML) (K : MI → ML → Prop) : Prop :=
    (wp_X9_rule I L (fun x1 I2 L3 => ((wp_X10_rule I2 (fun x4 I5 => (((x1 = x4 → K I5 L3) ∧ (¬ x1 = x4 → False))))))))
set_option maxRecDepth 20000 in
theorem cst_13 {E : Ev} {l : Launch} {Ln : Nat} {xs : Nat → Int32} {R : MR} (hGx : GRx R) (hGm : GRm R) {v3 : Int32} {I : MI} {L : ML} {K : MI → ML → Prop}
    (hK : ∀ (I : MI) (L : ML) (R : MR), GRx R → GRm R → K I L → X E l room_1 yL_law code 4 ret (lawX E Ln xs) lwZ 1488 [(0, .ref 1100), (1, .ref 0), (2, .ref 336), (3, .int v3)] [] 349 I L R 349 50368) (h : cs_13 Ln xs v3 I L K) : X E l room_1 yL_law code 4 ret (lawX E Ln xs) lwZ 617 [(0, .ref 1100), (1, .ref 0), (2, .ref 336), (3, .int v3)] [] 349 I L R 349 50368 := by
  unfold cs_13 at h
  refine x_aload_n dL_law_617 rfl ?_
  refine x_cVi11 [] (mt_X9_rule (Nat.le_of_ble_eq_true rfl) hGx h) dL_law_618 lk_RL_70 (Nat.le_of_ble_eq_true rfl) sh_0 rfl rfl (Nat.le_of_ble_eq_true rfl) (Rf_of rfl) (fun x1 I2 L3 h => ?_)
  refine x_aload_n dL_law_621 rfl ?_
  refine x_cVi10 [] (mt_X10_rule (Nat.le_refl 349) hGm h) dL_law_622 lk_RL_73 (Nat.le_of_ble_eq_true rfl) sh_336 rfl rfl (Nat.le_of_ble_eq_true rfl) (Rf_of rfl) (fun x4 I5 h => ?_)
  refine x_icmp_eq dL_law_625 (tgt := 1488) rfl ⟨fun c6 => ?_, fun c6 => ?_⟩
  · have h := h.1 c6
    exact hK I5 L3 _ hGx hGm h
  · have h := h.2 c6
    exact False.elim h
def cs_14 (Ln : Nat) (xs : Nat → Int32) (v3 : Int32) (I : MI) (L : ML) (K : MI → ML → Prop) : Prop :=
    (wp_X9_begin I L (fun x1 I2 L3 => ((wp_X10_begin I2 (fun x4 I5 => (((x1 = x4 → K I5 L3) ∧ (¬ x1 = x4 → False))))))))
set_option maxRecDepth 20000 in
theorem cst_14 {E : Ev} {l : Launch} {Ln : Nat} {xs : Nat → Int32} {R : MR} (hGx : GRx R) (hGm : GRm R) {v3 : Int32} {I : MI} {L : ML} {K : MI → ML → Prop}
    (hK : ∀ (I : MI) (L : ML) (R : MR), GRx R → GRm R → K I L → X E l room_1 yL_law code 4 ret (lawX E Ln xs) lwZ 1488 [(0, .ref 1100), (1, .ref 0), (2, .ref 336), (3, .int v3)] [] 349 I L R 349 50368) (h : cs_14 Ln xs v3 I L K) : X E l room_1 yL_law code 4 ret (lawX E Ln xs) lwZ 630 [(0, .ref 1100), (1, .ref 0), (2, .ref 336), (3, .int v3)] [] 349 I L R 349 50368 := by
  unfold cs_14 at h
  refine x_aload_n dL_law_630 rfl ?_
  refine x_cVi11 [] (mt_X9_begin (Nat.le_of_ble_eq_true rfl) hGx h) dL_law_631 lk_RL_74 (Nat.le_of_ble_eq_true rfl) sh_0 rfl rfl (Nat.le_of_ble_eq_true rfl) (Rf_of rfl) (fun x1 I2 L3 h => ?_)
  refine x_aload_n dL_law_634 rfl ?_
  refine x_cVi10 [] (mt_X10_begin (Nat.le_refl 349) hGm h) dL_law_635 lk_RL_77 (Nat.le_of_ble_eq_true rfl) sh_336 rfl rfl (Nat.le_of_ble_eq_true rfl) (Rf_of rfl) (fun x4 I5 h => ?_)
  refine x_icmp_eq dL_law_638 (tgt := 1488) rfl ⟨fun c6 => ?_, fun c6 => ?_⟩
  · have h := h.1 c6
    exact hK I5 L3 _ hGx hGm h
  · have h := h.2 c6
    exact False.elim h
def cs_15 (Ln : Nat) (xs : Nat → Int32) (v3 : Int32) (I : MI) (L : ML) (K : MI → ML → Prop) : Prop :=
    (wp_X9_undo I L (fun x1 I2 L3 => ((wp_X10_undo I2 (fun x4 I5 => (((x1 = x4 → K I5 L3) ∧ (¬ x1 = x4 → False))))))))
set_option maxRecDepth 20000 in
theorem cst_15 {E : Ev} {l : Launch} {Ln : Nat} {xs : Nat → Int32} {R : MR} (hGx : GRx R) (hGm : GRm R) {v3 : Int32} {I : MI} {L : ML} {K : MI → ML → Prop}
    (hK : ∀ (I : MI) (L : ML) (R : MR), GRx R → GRm R → K I L → X E l room_1 yL_law code 4 ret (lawX E Ln xs) lwZ 1488 [(0, .ref 1100), (1, .ref 0), (2, .ref 336), (3, .int v3)] [] 349 I L R 349 50368) (h : cs_15 Ln xs v3 I L K) : X E l room_1 yL_law code 4 ret (lawX E Ln xs) lwZ 643 [(0, .ref 1100), (1, .ref 0), (2, .ref 336), (3, .int v3)] [] 349 I L R 349 50368 := by
  unfold cs_15 at h
  refine x_aload_n dL_law_643 rfl ?_
  refine x_cVi11 [] (mt_X9_undo (Nat.le_of_ble_eq_true rfl) hGx h) dL_law_644 lk_RL_78 (Nat.le_of_ble_eq_true rfl) sh_0 rfl rfl (Nat.le_of_ble_eq_true rfl) (Rf_of rfl) (fun x1 I2 L3 h => ?_)
  refine x_aload_n dL_law_647 rfl ?_
  refine x_cVi10 [] (mt_X10_undo (Nat.le_refl 349) hGm h) dL_law_648 lk_RL_81 (Nat.le_of_ble_eq_true rfl) sh_336 rfl rfl (Nat.le_of_ble_eq_true rfl) (Rf_of rfl) (fun x4 I5 h => ?_)
  refine x_icmp_eq dL_law_651 (tgt := 1488) rfl ⟨fun c6 => ?_, fun c6 => ?_⟩
  · have h := h.1 c6
    exact hK I5 L3 _ hGx hGm h
  · have h := h.2 c6
    exact False.elim h
def cs_16 (Ln : Nat) (xs : Nat → Int32) (v3 : Int32) (I : MI) (L : ML) (K : MI → ML → Prop) : Prop :=
    (vp_in (v3 + 1) Ln ∧ (vp_in (v3 + 2) Ln ∧ (wp_X9_part I L (xs (ix (v3 + 1))) (xs (ix (v3 + 2))) (fun x3 => ((vp_in (v3 + 1) Ln ∧ (vp_in (v3 + 2) Ln ∧ (wp_X10_part I (xs (ix (v3 + 1))) (xs (ix (v3 + 2))) (fun x6 => (((x3 = x6 → K I L) ∧ (¬ x3 = x6 → False))))))))))))
set_option maxRecDepth 20000 in
theorem cst_16 {E : Ev} {l : Launch} {Ln : Nat} {xs : Nat → Int32} {R : MR} (hGx : GRx R) (hGm : GRm R) {v3 : Int32} {I : MI} {L : ML} {K : MI → ML → Prop}
    (hK : ∀ (I : MI) (L : ML) (R : MR), GRx R → GRm R → K I L → X E l room_1 yL_law code 4 ret (lawX E Ln xs) lwZ 1488 [(0, .ref 1100), (1, .ref 0), (2, .ref 336), (3, .int v3)] [] 349 I L R 349 50368) (h : cs_16 Ln xs v3 I L K) : X E l room_1 yL_law code 4 ret (lawX E Ln xs) lwZ 656 [(0, .ref 1100), (1, .ref 0), (2, .ref 336), (3, .int v3)] [] 349 I L R 349 50368 := by
  unfold cs_16 at h
  refine x_aload_n dL_law_656 rfl ?_
  refine x_aload_n dL_law_657 rfl ?_
  refine x_iload_n dL_law_658 rfl ?_
  refine x_iconst (v := 1) dL_law_659 ki_1 ?_
  refine x_iadd dL_law_660 ?_
  obtain ⟨b1, h⟩ := h
  refine x_sld dL_law_661 b1 ?_
  refine x_aload_n dL_law_662 rfl ?_
  refine x_iload_n dL_law_663 rfl ?_
  refine x_iconst (v := 2) dL_law_664 ki_2 ?_
  refine x_iadd dL_law_665 ?_
  obtain ⟨b2, h⟩ := h
  refine x_sld dL_law_666 b2 ?_
  refine x_cVi00 [.int (xs (ix (v3 + 1))), .int (xs (ix (v3 + 2)))] (mt_X9_part (Nat.le_of_ble_eq_true rfl) hGx h) dL_law_667 lk_RL_82 (Nat.le_of_ble_eq_true rfl) sh_0 rfl rfl (Nat.le_of_ble_eq_true rfl) (Rf_of rfl) (fun x3 h => ?_)
  refine x_aload_n dL_law_670 rfl ?_
  refine x_aload_n dL_law_671 rfl ?_
  refine x_iload_n dL_law_672 rfl ?_
  refine x_iconst (v := 1) dL_law_673 ki_1 ?_
  refine x_iadd dL_law_674 ?_
  obtain ⟨b4, h⟩ := h
  refine x_sld dL_law_675 b4 ?_
  refine x_aload_n dL_law_676 rfl ?_
  refine x_iload_n dL_law_677 rfl ?_
  refine x_iconst (v := 2) dL_law_678 ki_2 ?_
  refine x_iadd dL_law_679 ?_
  obtain ⟨b5, h⟩ := h
  refine x_sld dL_law_680 b5 ?_
  refine x_cVi00 [.int (xs (ix (v3 + 1))), .int (xs (ix (v3 + 2)))] (mt_X10_part (Nat.le_refl 349) hGm h) dL_law_681 lk_RL_85 (Nat.le_of_ble_eq_true rfl) sh_336 rfl rfl (Nat.le_of_ble_eq_true rfl) (Rf_of rfl) (fun x6 h => ?_)
  refine x_icmp_eq dL_law_684 (tgt := 1488) rfl ⟨fun c7 => ?_, fun c7 => ?_⟩
  · have h := h.1 c7
    exact hK I L _ hGx hGm h
  · have h := h.2 c7
    exact False.elim h
def cs_17 (Ln : Nat) (xs : Nat → Int32) (v3 : Int32) (I : MI) (L : ML) (K : MI → ML → Prop) : Prop :=
    (vp_in (v3 + 1) Ln ∧ (vp_in (v3 + 2) Ln ∧ (wp_X9_base I L (xs (ix (v3 + 1))) (xs (ix (v3 + 2))) (fun x3 => ((vp_in (v3 + 1) Ln ∧ (vp_in (v3 + 2) Ln ∧ (wp_X10_base I (xs (ix (v3 + 1))) (xs (ix (v3 + 2))) (fun x6 => (((x3 = x6 → K I L) ∧ (¬ x3 = x6 → False))))))))))))
set_option maxRecDepth 20000 in
theorem cst_17 {E : Ev} {l : Launch} {Ln : Nat} {xs : Nat → Int32} {R : MR} (hGx : GRx R) (hGm : GRm R) {v3 : Int32} {I : MI} {L : ML} {K : MI → ML → Prop}
    (hK : ∀ (I : MI) (L : ML) (R : MR), GRx R → GRm R → K I L → X E l room_1 yL_law code 4 ret (lawX E Ln xs) lwZ 1488 [(0, .ref 1100), (1, .ref 0), (2, .ref 336), (3, .int v3)] [] 349 I L R 349 50368) (h : cs_17 Ln xs v3 I L K) : X E l room_1 yL_law code 4 ret (lawX E Ln xs) lwZ 689 [(0, .ref 1100), (1, .ref 0), (2, .ref 336), (3, .int v3)] [] 349 I L R 349 50368 := by
  unfold cs_17 at h
  refine x_aload_n dL_law_689 rfl ?_
  refine x_aload_n dL_law_690 rfl ?_
  refine x_iload_n dL_law_691 rfl ?_
  refine x_iconst (v := 1) dL_law_692 ki_1 ?_
  refine x_iadd dL_law_693 ?_
  obtain ⟨b1, h⟩ := h
  refine x_sld dL_law_694 b1 ?_
  refine x_aload_n dL_law_695 rfl ?_
  refine x_iload_n dL_law_696 rfl ?_
  refine x_iconst (v := 2) dL_law_697 ki_2 ?_
  refine x_iadd dL_law_698 ?_
  obtain ⟨b2, h⟩ := h
  refine x_sld dL_law_699 b2 ?_
  refine x_cVi00 [.int (xs (ix (v3 + 1))), .int (xs (ix (v3 + 2)))] (mt_X9_base (Nat.le_of_ble_eq_true rfl) hGx h) dL_law_700 lk_RL_86 (Nat.le_of_ble_eq_true rfl) sh_0 rfl rfl (Nat.le_of_ble_eq_true rfl) (Rf_of rfl) (fun x3 h => ?_)
  refine x_aload_n dL_law_703 rfl ?_
  refine x_aload_n dL_law_704 rfl ?_
  refine x_iload_n dL_law_705 rfl ?_
  refine x_iconst (v := 1) dL_law_706 ki_1 ?_
  refine x_iadd dL_law_707 ?_
  obtain ⟨b4, h⟩ := h
  refine x_sld dL_law_708 b4 ?_
  refine x_aload_n dL_law_709 rfl ?_
  refine x_iload_n dL_law_710 rfl ?_
  refine x_iconst (v := 2) dL_law_711 ki_2 ?_
  refine x_iadd dL_law_712 ?_
  obtain ⟨b5, h⟩ := h
  refine x_sld dL_law_713 b5 ?_
  refine x_cVi00 [.int (xs (ix (v3 + 1))), .int (xs (ix (v3 + 2)))] (mt_X10_base (Nat.le_refl 349) hGm h) dL_law_714 lk_RL_89 (Nat.le_of_ble_eq_true rfl) sh_336 rfl rfl (Nat.le_of_ble_eq_true rfl) (Rf_of rfl) (fun x6 h => ?_)
  refine x_icmp_eq dL_law_717 (tgt := 1488) rfl ⟨fun c7 => ?_, fun c7 => ?_⟩
  · have h := h.1 c7
    exact hK I L _ hGx hGm h
  · have h := h.2 c7
    exact False.elim h
def cs_18 (Ln : Nat) (xs : Nat → Int32) (v3 : Int32) (I : MI) (L : ML) (K : MI → ML → Prop) : Prop :=
    (vp_in (v3 + 1) Ln ∧ (vp_in (v3 + 2) Ln ∧ (vp_in (v3 + 3) Ln ∧ (wp_X9_cell I L (xs (ix (v3 + 1))) (xs (ix (v3 + 2))) (xs (ix (v3 + 3))) (fun x4 => ((vp_in (v3 + 1) Ln ∧ (vp_in (v3 + 2) Ln ∧ (vp_in (v3 + 3) Ln ∧ (wp_X10_cell I (xs (ix (v3 + 1))) (xs (ix (v3 + 2))) (xs (ix (v3 + 3))) (fun x8 => (((x4 = x8 → K I L) ∧ (¬ x4 = x8 → False))))))))))))))
set_option maxRecDepth 20000 in
theorem cst_18 {E : Ev} {l : Launch} {Ln : Nat} {xs : Nat → Int32} {R : MR} (hGx : GRx R) (hGm : GRm R) {v3 : Int32} {I : MI} {L : ML} {K : MI → ML → Prop}
    (hK : ∀ (I : MI) (L : ML) (R : MR), GRx R → GRm R → K I L → X E l room_1 yL_law code 4 ret (lawX E Ln xs) lwZ 1488 [(0, .ref 1100), (1, .ref 0), (2, .ref 336), (3, .int v3)] [] 349 I L R 349 50368) (h : cs_18 Ln xs v3 I L K) : X E l room_1 yL_law code 4 ret (lawX E Ln xs) lwZ 722 [(0, .ref 1100), (1, .ref 0), (2, .ref 336), (3, .int v3)] [] 349 I L R 349 50368 := by
  unfold cs_18 at h
  refine x_aload_n dL_law_722 rfl ?_
  refine x_aload_n dL_law_723 rfl ?_
  refine x_iload_n dL_law_724 rfl ?_
  refine x_iconst (v := 1) dL_law_725 ki_1 ?_
  refine x_iadd dL_law_726 ?_
  obtain ⟨b1, h⟩ := h
  refine x_sld dL_law_727 b1 ?_
  refine x_aload_n dL_law_728 rfl ?_
  refine x_iload_n dL_law_729 rfl ?_
  refine x_iconst (v := 2) dL_law_730 ki_2 ?_
  refine x_iadd dL_law_731 ?_
  obtain ⟨b2, h⟩ := h
  refine x_sld dL_law_732 b2 ?_
  refine x_aload_n dL_law_733 rfl ?_
  refine x_iload_n dL_law_734 rfl ?_
  refine x_iconst (v := 3) dL_law_735 ki_3 ?_
  refine x_iadd dL_law_736 ?_
  obtain ⟨b3, h⟩ := h
  refine x_sld dL_law_737 b3 ?_
  refine x_cVi00 [.int (xs (ix (v3 + 1))), .int (xs (ix (v3 + 2))), .int (xs (ix (v3 + 3)))] (mt_X9_cell (Nat.le_of_ble_eq_true rfl) hGx h) dL_law_738 lk_RL_90 (Nat.le_of_ble_eq_true rfl) sh_0 rfl rfl (Nat.le_of_ble_eq_true rfl) (Rf_of rfl) (fun x4 h => ?_)
  refine x_aload_n dL_law_741 rfl ?_
  refine x_aload_n dL_law_742 rfl ?_
  refine x_iload_n dL_law_743 rfl ?_
  refine x_iconst (v := 1) dL_law_744 ki_1 ?_
  refine x_iadd dL_law_745 ?_
  obtain ⟨b5, h⟩ := h
  refine x_sld dL_law_746 b5 ?_
  refine x_aload_n dL_law_747 rfl ?_
  refine x_iload_n dL_law_748 rfl ?_
  refine x_iconst (v := 2) dL_law_749 ki_2 ?_
  refine x_iadd dL_law_750 ?_
  obtain ⟨b6, h⟩ := h
  refine x_sld dL_law_751 b6 ?_
  refine x_aload_n dL_law_752 rfl ?_
  refine x_iload_n dL_law_753 rfl ?_
  refine x_iconst (v := 3) dL_law_754 ki_3 ?_
  refine x_iadd dL_law_755 ?_
  obtain ⟨b7, h⟩ := h
  refine x_sld dL_law_756 b7 ?_
  refine x_cVi00 [.int (xs (ix (v3 + 1))), .int (xs (ix (v3 + 2))), .int (xs (ix (v3 + 3)))] (mt_X10_cell (Nat.le_refl 349) hGm h) dL_law_757 lk_RL_93 (Nat.le_of_ble_eq_true rfl) sh_336 rfl rfl (Nat.le_of_ble_eq_true rfl) (Rf_of rfl) (fun x8 h => ?_)
  refine x_icmp_eq dL_law_760 (tgt := 1488) rfl ⟨fun c9 => ?_, fun c9 => ?_⟩
  · have h := h.1 c9
    exact hK I L _ hGx hGm h
  · have h := h.2 c9
    exact False.elim h
def cs_19 (Ln : Nat) (xs : Nat → Int32) (v3 : Int32) (I : MI) (L : ML) (K : MI → ML → Prop) : Prop :=
    (vp_in (v3 + 1) Ln ∧ (vp_in (v3 + 2) Ln ∧ (wp_X9_want I L (xs (ix (v3 + 1))) (xs (ix (v3 + 2))) (fun x3 => ((vp_in (v3 + 1) Ln ∧ (vp_in (v3 + 2) Ln ∧ (wp_X10_want I (xs (ix (v3 + 1))) (xs (ix (v3 + 2))) (fun x6 => (((x3 = x6 → K I L) ∧ (¬ x3 = x6 → False))))))))))))
set_option maxRecDepth 20000 in
theorem cst_19 {E : Ev} {l : Launch} {Ln : Nat} {xs : Nat → Int32} {R : MR} (hGx : GRx R) (hGm : GRm R) {v3 : Int32} {I : MI} {L : ML} {K : MI → ML → Prop}
    (hK : ∀ (I : MI) (L : ML) (R : MR), GRx R → GRm R → K I L → X E l room_1 yL_law code 4 ret (lawX E Ln xs) lwZ 1488 [(0, .ref 1100), (1, .ref 0), (2, .ref 336), (3, .int v3)] [] 349 I L R 349 50368) (h : cs_19 Ln xs v3 I L K) : X E l room_1 yL_law code 4 ret (lawX E Ln xs) lwZ 765 [(0, .ref 1100), (1, .ref 0), (2, .ref 336), (3, .int v3)] [] 349 I L R 349 50368 := by
  unfold cs_19 at h
  refine x_aload_n dL_law_765 rfl ?_
  refine x_aload_n dL_law_766 rfl ?_
  refine x_iload_n dL_law_767 rfl ?_
  refine x_iconst (v := 1) dL_law_768 ki_1 ?_
  refine x_iadd dL_law_769 ?_
  obtain ⟨b1, h⟩ := h
  refine x_sld dL_law_770 b1 ?_
  refine x_aload_n dL_law_771 rfl ?_
  refine x_iload_n dL_law_772 rfl ?_
  refine x_iconst (v := 2) dL_law_773 ki_2 ?_
  refine x_iadd dL_law_774 ?_
  obtain ⟨b2, h⟩ := h
  refine x_sld dL_law_775 b2 ?_
  refine x_cVi00 [.int (xs (ix (v3 + 1))), .int (xs (ix (v3 + 2)))] (mt_X9_want (Nat.le_of_ble_eq_true rfl) hGx h) dL_law_776 lk_RL_94 (Nat.le_of_ble_eq_true rfl) sh_0 rfl rfl (Nat.le_of_ble_eq_true rfl) (Rf_of rfl) (fun x3 h => ?_)
  refine x_aload_n dL_law_779 rfl ?_
  refine x_aload_n dL_law_780 rfl ?_
  refine x_iload_n dL_law_781 rfl ?_
  refine x_iconst (v := 1) dL_law_782 ki_1 ?_
  refine x_iadd dL_law_783 ?_
  obtain ⟨b4, h⟩ := h
  refine x_sld dL_law_784 b4 ?_
  refine x_aload_n dL_law_785 rfl ?_
  refine x_iload_n dL_law_786 rfl ?_
  refine x_iconst (v := 2) dL_law_787 ki_2 ?_
  refine x_iadd dL_law_788 ?_
  obtain ⟨b5, h⟩ := h
  refine x_sld dL_law_789 b5 ?_
  refine x_cVi00 [.int (xs (ix (v3 + 1))), .int (xs (ix (v3 + 2)))] (mt_X10_want (Nat.le_refl 349) hGm h) dL_law_790 lk_RL_97 (Nat.le_of_ble_eq_true rfl) sh_336 rfl rfl (Nat.le_of_ble_eq_true rfl) (Rf_of rfl) (fun x6 h => ?_)
  refine x_icmp_eq dL_law_793 (tgt := 1488) rfl ⟨fun c7 => ?_, fun c7 => ?_⟩
  · have h := h.1 c7
    exact hK I L _ hGx hGm h
  · have h := h.2 c7
    exact False.elim h
def cs_20 (Ln : Nat) (xs : Nat → Int32) (v3 : Int32) (I : MI) (L : ML) (K : MI → ML → Prop) : Prop :=
    (vp_in (v3 + 1) Ln ∧ (vp_in (v3 + 2) Ln ∧ (vp_in (v3 + 3) Ln ∧ (wp_X9_call I L (xs (ix (v3 + 1))) (xs (ix (v3 + 2))) (xs (ix (v3 + 3))) (fun x4 => ((vp_in (v3 + 1) Ln ∧ (vp_in (v3 + 2) Ln ∧ (vp_in (v3 + 3) Ln ∧ (wp_X10_call I (xs (ix (v3 + 1))) (xs (ix (v3 + 2))) (xs (ix (v3 + 3))) (fun x8 => (((x4 = x8 → K I L) ∧ (¬ x4 = x8 → False))))))))))))))
set_option maxRecDepth 20000 in
theorem cst_20 {E : Ev} {l : Launch} {Ln : Nat} {xs : Nat → Int32} {R : MR} (hGx : GRx R) (hGm : GRm R) {v3 : Int32} {I : MI} {L : ML} {K : MI → ML → Prop}
    (hK : ∀ (I : MI) (L : ML) (R : MR), GRx R → GRm R → K I L → X E l room_1 yL_law code 4 ret (lawX E Ln xs) lwZ 1488 [(0, .ref 1100), (1, .ref 0), (2, .ref 336), (3, .int v3)] [] 349 I L R 349 50368) (h : cs_20 Ln xs v3 I L K) : X E l room_1 yL_law code 4 ret (lawX E Ln xs) lwZ 798 [(0, .ref 1100), (1, .ref 0), (2, .ref 336), (3, .int v3)] [] 349 I L R 349 50368 := by
  unfold cs_20 at h
  refine x_aload_n dL_law_798 rfl ?_
  refine x_aload_n dL_law_799 rfl ?_
  refine x_iload_n dL_law_800 rfl ?_
  refine x_iconst (v := 1) dL_law_801 ki_1 ?_
  refine x_iadd dL_law_802 ?_
  obtain ⟨b1, h⟩ := h
  refine x_sld dL_law_803 b1 ?_
  refine x_aload_n dL_law_804 rfl ?_
  refine x_iload_n dL_law_805 rfl ?_
  refine x_iconst (v := 2) dL_law_806 ki_2 ?_
  refine x_iadd dL_law_807 ?_
  obtain ⟨b2, h⟩ := h
  refine x_sld dL_law_808 b2 ?_
  refine x_aload_n dL_law_809 rfl ?_
  refine x_iload_n dL_law_810 rfl ?_
  refine x_iconst (v := 3) dL_law_811 ki_3 ?_
  refine x_iadd dL_law_812 ?_
  obtain ⟨b3, h⟩ := h
  refine x_sld dL_law_813 b3 ?_
  refine x_cVi00 [.int (xs (ix (v3 + 1))), .int (xs (ix (v3 + 2))), .int (xs (ix (v3 + 3)))] (mt_X9_call (Nat.le_of_ble_eq_true rfl) hGx h) dL_law_814 lk_RL_98 (Nat.le_of_ble_eq_true rfl) sh_0 rfl rfl (Nat.le_of_ble_eq_true rfl) (Rf_of rfl) (fun x4 h => ?_)
  refine x_aload_n dL_law_817 rfl ?_
  refine x_aload_n dL_law_818 rfl ?_
  refine x_iload_n dL_law_819 rfl ?_
  refine x_iconst (v := 1) dL_law_820 ki_1 ?_
  refine x_iadd dL_law_821 ?_
  obtain ⟨b5, h⟩ := h
  refine x_sld dL_law_822 b5 ?_
  refine x_aload_n dL_law_823 rfl ?_
  refine x_iload_n dL_law_824 rfl ?_
  refine x_iconst (v := 2) dL_law_825 ki_2 ?_
  refine x_iadd dL_law_826 ?_
  obtain ⟨b6, h⟩ := h
  refine x_sld dL_law_827 b6 ?_
  refine x_aload_n dL_law_828 rfl ?_
  refine x_iload_n dL_law_829 rfl ?_
  refine x_iconst (v := 3) dL_law_830 ki_3 ?_
  refine x_iadd dL_law_831 ?_
  obtain ⟨b7, h⟩ := h
  refine x_sld dL_law_832 b7 ?_
  refine x_cVi00 [.int (xs (ix (v3 + 1))), .int (xs (ix (v3 + 2))), .int (xs (ix (v3 + 3)))] (mt_X10_call (Nat.le_refl 349) hGm h) dL_law_833 lk_RL_101 (Nat.le_of_ble_eq_true rfl) sh_336 rfl rfl (Nat.le_of_ble_eq_true rfl) (Rf_of rfl) (fun x8 h => ?_)
  refine x_icmp_eq dL_law_836 (tgt := 1488) rfl ⟨fun c9 => ?_, fun c9 => ?_⟩
  · have h := h.1 c9
    exact hK I L _ hGx hGm h
  · have h := h.2 c9
    exact False.elim h
def cs_21 (Ln : Nat) (xs : Nat → Int32) (v3 : Int32) (I : MI) (L : ML) (K : MI → ML → Prop) : Prop :=
    (vp_in (v3 + 1) Ln ∧ (vp_in (v3 + 2) Ln ∧ (wp_X9_way I L (xs (ix (v3 + 1))) (xs (ix (v3 + 2))) (fun x3 => ((vp_in (v3 + 1) Ln ∧ (vp_in (v3 + 2) Ln ∧ (wp_X10_way I (xs (ix (v3 + 1))) (xs (ix (v3 + 2))) (fun x6 => (((x3 = x6 → K I L) ∧ (¬ x3 = x6 → False))))))))))))
set_option maxRecDepth 20000 in
theorem cst_21 {E : Ev} {l : Launch} {Ln : Nat} {xs : Nat → Int32} {R : MR} (hGx : GRx R) (hGm : GRm R) {v3 : Int32} {I : MI} {L : ML} {K : MI → ML → Prop}
    (hK : ∀ (I : MI) (L : ML) (R : MR), GRx R → GRm R → K I L → X E l room_1 yL_law code 4 ret (lawX E Ln xs) lwZ 1488 [(0, .ref 1100), (1, .ref 0), (2, .ref 336), (3, .int v3)] [] 349 I L R 349 50368) (h : cs_21 Ln xs v3 I L K) : X E l room_1 yL_law code 4 ret (lawX E Ln xs) lwZ 841 [(0, .ref 1100), (1, .ref 0), (2, .ref 336), (3, .int v3)] [] 349 I L R 349 50368 := by
  unfold cs_21 at h
  refine x_aload_n dL_law_841 rfl ?_
  refine x_aload_n dL_law_842 rfl ?_
  refine x_iload_n dL_law_843 rfl ?_
  refine x_iconst (v := 1) dL_law_844 ki_1 ?_
  refine x_iadd dL_law_845 ?_
  obtain ⟨b1, h⟩ := h
  refine x_sld dL_law_846 b1 ?_
  refine x_aload_n dL_law_847 rfl ?_
  refine x_iload_n dL_law_848 rfl ?_
  refine x_iconst (v := 2) dL_law_849 ki_2 ?_
  refine x_iadd dL_law_850 ?_
  obtain ⟨b2, h⟩ := h
  refine x_sld dL_law_851 b2 ?_
  refine x_cVi00 [.int (xs (ix (v3 + 1))), .int (xs (ix (v3 + 2)))] (mt_X9_way (Nat.le_of_ble_eq_true rfl) hGx h) dL_law_852 lk_RL_102 (Nat.le_of_ble_eq_true rfl) sh_0 rfl rfl (Nat.le_of_ble_eq_true rfl) (Rf_of rfl) (fun x3 h => ?_)
  refine x_aload_n dL_law_855 rfl ?_
  refine x_aload_n dL_law_856 rfl ?_
  refine x_iload_n dL_law_857 rfl ?_
  refine x_iconst (v := 1) dL_law_858 ki_1 ?_
  refine x_iadd dL_law_859 ?_
  obtain ⟨b4, h⟩ := h
  refine x_sld dL_law_860 b4 ?_
  refine x_aload_n dL_law_861 rfl ?_
  refine x_iload_n dL_law_862 rfl ?_
  refine x_iconst (v := 2) dL_law_863 ki_2 ?_
  refine x_iadd dL_law_864 ?_
  obtain ⟨b5, h⟩ := h
  refine x_sld dL_law_865 b5 ?_
  refine x_cVi00 [.int (xs (ix (v3 + 1))), .int (xs (ix (v3 + 2)))] (mt_X10_way (Nat.le_refl 349) hGm h) dL_law_866 lk_RL_105 (Nat.le_of_ble_eq_true rfl) sh_336 rfl rfl (Nat.le_of_ble_eq_true rfl) (Rf_of rfl) (fun x6 h => ?_)
  refine x_icmp_eq dL_law_869 (tgt := 1488) rfl ⟨fun c7 => ?_, fun c7 => ?_⟩
  · have h := h.1 c7
    exact hK I L _ hGx hGm h
  · have h := h.2 c7
    exact False.elim h
def cs_22 (Ln : Nat) (xs : Nat → Int32) (v3 : Int32) (I : MI) (L : ML) (K : MI → ML → Prop) : Prop :=
    (vp_in (v3 + 1) Ln ∧ (wp_X9_waits I L (xs (ix (v3 + 1))) (fun x2 => ((vp_in (v3 + 1) Ln ∧ (wp_X10_waits I (xs (ix (v3 + 1))) (fun x4 => (((x2 = x4 → K I L) ∧ (¬ x2 = x4 → False))))))))))
set_option maxRecDepth 20000 in
theorem cst_22 {E : Ev} {l : Launch} {Ln : Nat} {xs : Nat → Int32} {R : MR} (hGx : GRx R) (hGm : GRm R) {v3 : Int32} {I : MI} {L : ML} {K : MI → ML → Prop}
    (hK : ∀ (I : MI) (L : ML) (R : MR), GRx R → GRm R → K I L → X E l room_1 yL_law code 4 ret (lawX E Ln xs) lwZ 1488 [(0, .ref 1100), (1, .ref 0), (2, .ref 336), (3, .int v3)] [] 349 I L R 349 50368) (h : cs_22 Ln xs v3 I L K) : X E l room_1 yL_law code 4 ret (lawX E Ln xs) lwZ 874 [(0, .ref 1100), (1, .ref 0), (2, .ref 336), (3, .int v3)] [] 349 I L R 349 50368 := by
  unfold cs_22 at h
  refine x_aload_n dL_law_874 rfl ?_
  refine x_aload_n dL_law_875 rfl ?_
  refine x_iload_n dL_law_876 rfl ?_
  refine x_iconst (v := 1) dL_law_877 ki_1 ?_
  refine x_iadd dL_law_878 ?_
  obtain ⟨b1, h⟩ := h
  refine x_sld dL_law_879 b1 ?_
  refine x_cVi00 [.int (xs (ix (v3 + 1)))] (mt_X9_waits (Nat.le_of_ble_eq_true rfl) hGx h) dL_law_880 lk_RL_106 (Nat.le_of_ble_eq_true rfl) sh_0 rfl rfl (Nat.le_of_ble_eq_true rfl) (Rf_of rfl) (fun x2 h => ?_)
  refine x_aload_n dL_law_883 rfl ?_
  refine x_aload_n dL_law_884 rfl ?_
  refine x_iload_n dL_law_885 rfl ?_
  refine x_iconst (v := 1) dL_law_886 ki_1 ?_
  refine x_iadd dL_law_887 ?_
  obtain ⟨b3, h⟩ := h
  refine x_sld dL_law_888 b3 ?_
  refine x_cVi00 [.int (xs (ix (v3 + 1)))] (mt_X10_waits (Nat.le_refl 349) hGm h) dL_law_889 lk_RL_109 (Nat.le_of_ble_eq_true rfl) sh_336 rfl rfl (Nat.le_of_ble_eq_true rfl) (Rf_of rfl) (fun x4 h => ?_)
  refine x_icmp_eq dL_law_892 (tgt := 1488) rfl ⟨fun c5 => ?_, fun c5 => ?_⟩
  · have h := h.1 c5
    exact hK I L _ hGx hGm h
  · have h := h.2 c5
    exact False.elim h
def cs_23 (Ln : Nat) (xs : Nat → Int32) (v3 : Int32) (I : MI) (L : ML) (K : MI → ML → Prop) : Prop :=
    (vp_in (v3 + 1) Ln ∧ (wp_X9_played I L (xs (ix (v3 + 1))) (fun x2 => ((vp_in (v3 + 1) Ln ∧ (wp_X10_played I (xs (ix (v3 + 1))) (fun x4 => (((x2 = x4 → K I L) ∧ (¬ x2 = x4 → False))))))))))
set_option maxRecDepth 20000 in
theorem cst_23 {E : Ev} {l : Launch} {Ln : Nat} {xs : Nat → Int32} {R : MR} (hGx : GRx R) (hGm : GRm R) {v3 : Int32} {I : MI} {L : ML} {K : MI → ML → Prop}
    (hK : ∀ (I : MI) (L : ML) (R : MR), GRx R → GRm R → K I L → X E l room_1 yL_law code 4 ret (lawX E Ln xs) lwZ 1488 [(0, .ref 1100), (1, .ref 0), (2, .ref 336), (3, .int v3)] [] 349 I L R 349 50368) (h : cs_23 Ln xs v3 I L K) : X E l room_1 yL_law code 4 ret (lawX E Ln xs) lwZ 897 [(0, .ref 1100), (1, .ref 0), (2, .ref 336), (3, .int v3)] [] 349 I L R 349 50368 := by
  unfold cs_23 at h
  refine x_aload_n dL_law_897 rfl ?_
  refine x_aload_n dL_law_898 rfl ?_
  refine x_iload_n dL_law_899 rfl ?_
  refine x_iconst (v := 1) dL_law_900 ki_1 ?_
  refine x_iadd dL_law_901 ?_
  obtain ⟨b1, h⟩ := h
  refine x_sld dL_law_902 b1 ?_
  refine x_cVi00 [.int (xs (ix (v3 + 1)))] (mt_X9_played (Nat.le_of_ble_eq_true rfl) hGx h) dL_law_903 lk_RL_110 (Nat.le_of_ble_eq_true rfl) sh_0 rfl rfl (Nat.le_of_ble_eq_true rfl) (Rf_of rfl) (fun x2 h => ?_)
  refine x_aload_n dL_law_906 rfl ?_
  refine x_aload_n dL_law_907 rfl ?_
  refine x_iload_n dL_law_908 rfl ?_
  refine x_iconst (v := 1) dL_law_909 ki_1 ?_
  refine x_iadd dL_law_910 ?_
  obtain ⟨b3, h⟩ := h
  refine x_sld dL_law_911 b3 ?_
  refine x_cVi00 [.int (xs (ix (v3 + 1)))] (mt_X10_played (Nat.le_refl 349) hGm h) dL_law_912 lk_RL_113 (Nat.le_of_ble_eq_true rfl) sh_336 rfl rfl (Nat.le_of_ble_eq_true rfl) (Rf_of rfl) (fun x4 h => ?_)
  refine x_icmp_eq dL_law_915 (tgt := 1488) rfl ⟨fun c5 => ?_, fun c5 => ?_⟩
  · have h := h.1 c5
    exact hK I L _ hGx hGm h
  · have h := h.2 c5
    exact False.elim h
def cs_24 (Ln : Nat) (xs : Nat → Int32) (v3 : Int32) (I : MI) (L : ML) (K : MI → ML → Prop) : Prop :=
    (vp_in (v3 + 1) Ln ∧ (vp_in (v3 + 2) Ln ∧ (vp_in (v3 + 3) Ln ∧ (wp_X9_out I L (xs (ix (v3 + 1))) (xs (ix (v3 + 2))) (xs (ix (v3 + 3))) (fun x4 I5 L6 => ((vp_in (v3 + 1) Ln ∧ (vp_in (v3 + 2) Ln ∧ (vp_in (v3 + 3) Ln ∧ (wp_X10_out I5 (xs (ix (v3 + 1))) (xs (ix (v3 + 2))) (xs (ix (v3 + 3))) (fun x10 => ((((lg_cmp x4 x10) = 0 → K I5 L6) ∧ (¬ (lg_cmp x4 x10) = 0 → False))))))))))))))
set_option maxRecDepth 20000 in
theorem cst_24 {E : Ev} {l : Launch} {Ln : Nat} {xs : Nat → Int32} {R : MR} (hGx : GRx R) (hGm : GRm R) {v3 : Int32} {I : MI} {L : ML} {K : MI → ML → Prop}
    (hK : ∀ (I : MI) (L : ML) (R : MR), GRx R → GRm R → K I L → X E l room_1 yL_law code 4 ret (lawX E Ln xs) lwZ 1488 [(0, .ref 1100), (1, .ref 0), (2, .ref 336), (3, .int v3)] [] 349 I L R 349 50368) (h : cs_24 Ln xs v3 I L K) : X E l room_1 yL_law code 4 ret (lawX E Ln xs) lwZ 920 [(0, .ref 1100), (1, .ref 0), (2, .ref 336), (3, .int v3)] [] 349 I L R 349 50368 := by
  unfold cs_24 at h
  refine x_aload_n dL_law_920 rfl ?_
  refine x_aload_n dL_law_921 rfl ?_
  refine x_iload_n dL_law_922 rfl ?_
  refine x_iconst (v := 1) dL_law_923 ki_1 ?_
  refine x_iadd dL_law_924 ?_
  obtain ⟨b1, h⟩ := h
  refine x_sld dL_law_925 b1 ?_
  refine x_aload_n dL_law_926 rfl ?_
  refine x_iload_n dL_law_927 rfl ?_
  refine x_iconst (v := 2) dL_law_928 ki_2 ?_
  refine x_iadd dL_law_929 ?_
  obtain ⟨b2, h⟩ := h
  refine x_sld dL_law_930 b2 ?_
  refine x_aload_n dL_law_931 rfl ?_
  refine x_iload_n dL_law_932 rfl ?_
  refine x_iconst (v := 3) dL_law_933 ki_3 ?_
  refine x_iadd dL_law_934 ?_
  obtain ⟨b3, h⟩ := h
  refine x_sld dL_law_935 b3 ?_
  refine x_cVl11 [.int (xs (ix (v3 + 1))), .int (xs (ix (v3 + 2))), .int (xs (ix (v3 + 3)))] (mt_X9_out (Nat.le_of_ble_eq_true rfl) hGx h) dL_law_936 lk_RL_114 (Nat.le_of_ble_eq_true rfl) sh_0 rfl rfl (Nat.le_of_ble_eq_true rfl) (Rf_of rfl) (fun x4 I5 L6 h => ?_)
  refine x_aload_n dL_law_939 rfl ?_
  refine x_aload_n dL_law_940 rfl ?_
  refine x_iload_n dL_law_941 rfl ?_
  refine x_iconst (v := 1) dL_law_942 ki_1 ?_
  refine x_iadd dL_law_943 ?_
  obtain ⟨b7, h⟩ := h
  refine x_sld dL_law_944 b7 ?_
  refine x_aload_n dL_law_945 rfl ?_
  refine x_iload_n dL_law_946 rfl ?_
  refine x_iconst (v := 2) dL_law_947 ki_2 ?_
  refine x_iadd dL_law_948 ?_
  obtain ⟨b8, h⟩ := h
  refine x_sld dL_law_949 b8 ?_
  refine x_aload_n dL_law_950 rfl ?_
  refine x_iload_n dL_law_951 rfl ?_
  refine x_iconst (v := 3) dL_law_952 ki_3 ?_
  refine x_iadd dL_law_953 ?_
  obtain ⟨b9, h⟩ := h
  refine x_sld dL_law_954 b9 ?_
  refine x_cVl00 [.int (xs (ix (v3 + 1))), .int (xs (ix (v3 + 2))), .int (xs (ix (v3 + 3)))] (mt_X10_out (Nat.le_refl 349) hGm h) dL_law_955 lk_RL_118 (Nat.le_of_ble_eq_true rfl) sh_336 rfl rfl (Nat.le_of_ble_eq_true rfl) (Rf_of rfl) (fun x10 h => ?_)
  refine x_lcmp dL_law_958 ?_
  refine x_if_eq dL_law_959 (tgt := 1488) rfl ⟨fun c11 => ?_, fun c11 => ?_⟩
  · have h := h.1 c11
    exact hK I5 L6 _ hGx hGm h
  · have h := h.2 c11
    exact False.elim h
def cs_25 (Ln : Nat) (xs : Nat → Int32) (v3 : Int32) (I : MI) (L : ML) (K : MI → ML → Prop) : Prop :=
    (vp_in (v3 + 1) Ln ∧ (vp_in (v3 + 2) Ln ∧ (vp_in (v3 + 3) Ln ∧ (wp_X9_lack I L (xs (ix (v3 + 1))) (xs (ix (v3 + 2))) (xs (ix (v3 + 3))) (fun x4 I5 L6 => ((vp_in (v3 + 1) Ln ∧ (vp_in (v3 + 2) Ln ∧ (vp_in (v3 + 3) Ln ∧ (wp_X10_lack I5 (xs (ix (v3 + 1))) (xs (ix (v3 + 2))) (xs (ix (v3 + 3))) (fun x10 => ((((lg_cmp x4 x10) = 0 → K I5 L6) ∧ (¬ (lg_cmp x4 x10) = 0 → False))))))))))))))
set_option maxRecDepth 20000 in
theorem cst_25 {E : Ev} {l : Launch} {Ln : Nat} {xs : Nat → Int32} {R : MR} (hGx : GRx R) (hGm : GRm R) {v3 : Int32} {I : MI} {L : ML} {K : MI → ML → Prop}
    (hK : ∀ (I : MI) (L : ML) (R : MR), GRx R → GRm R → K I L → X E l room_1 yL_law code 4 ret (lawX E Ln xs) lwZ 1488 [(0, .ref 1100), (1, .ref 0), (2, .ref 336), (3, .int v3)] [] 349 I L R 349 50368) (h : cs_25 Ln xs v3 I L K) : X E l room_1 yL_law code 4 ret (lawX E Ln xs) lwZ 964 [(0, .ref 1100), (1, .ref 0), (2, .ref 336), (3, .int v3)] [] 349 I L R 349 50368 := by
  unfold cs_25 at h
  refine x_aload_n dL_law_964 rfl ?_
  refine x_aload_n dL_law_965 rfl ?_
  refine x_iload_n dL_law_966 rfl ?_
  refine x_iconst (v := 1) dL_law_967 ki_1 ?_
  refine x_iadd dL_law_968 ?_
  obtain ⟨b1, h⟩ := h
  refine x_sld dL_law_969 b1 ?_
  refine x_aload_n dL_law_970 rfl ?_
  refine x_iload_n dL_law_971 rfl ?_
  refine x_iconst (v := 2) dL_law_972 ki_2 ?_
  refine x_iadd dL_law_973 ?_
  obtain ⟨b2, h⟩ := h
  refine x_sld dL_law_974 b2 ?_
  refine x_aload_n dL_law_975 rfl ?_
  refine x_iload_n dL_law_976 rfl ?_
  refine x_iconst (v := 3) dL_law_977 ki_3 ?_
  refine x_iadd dL_law_978 ?_
  obtain ⟨b3, h⟩ := h
  refine x_sld dL_law_979 b3 ?_
  refine x_cVl11 [.int (xs (ix (v3 + 1))), .int (xs (ix (v3 + 2))), .int (xs (ix (v3 + 3)))] (mt_X9_lack (Nat.le_of_ble_eq_true rfl) hGx h) dL_law_980 lk_RL_119 (Nat.le_of_ble_eq_true rfl) sh_0 rfl rfl (Nat.le_of_ble_eq_true rfl) (Rf_of rfl) (fun x4 I5 L6 h => ?_)
  refine x_aload_n dL_law_983 rfl ?_
  refine x_aload_n dL_law_984 rfl ?_
  refine x_iload_n dL_law_985 rfl ?_
  refine x_iconst (v := 1) dL_law_986 ki_1 ?_
  refine x_iadd dL_law_987 ?_
  obtain ⟨b7, h⟩ := h
  refine x_sld dL_law_988 b7 ?_
  refine x_aload_n dL_law_989 rfl ?_
  refine x_iload_n dL_law_990 rfl ?_
  refine x_iconst (v := 2) dL_law_991 ki_2 ?_
  refine x_iadd dL_law_992 ?_
  obtain ⟨b8, h⟩ := h
  refine x_sld dL_law_993 b8 ?_
  refine x_aload_n dL_law_994 rfl ?_
  refine x_iload_n dL_law_995 rfl ?_
  refine x_iconst (v := 3) dL_law_996 ki_3 ?_
  refine x_iadd dL_law_997 ?_
  obtain ⟨b9, h⟩ := h
  refine x_sld dL_law_998 b9 ?_
  refine x_cVl00 [.int (xs (ix (v3 + 1))), .int (xs (ix (v3 + 2))), .int (xs (ix (v3 + 3)))] (mt_X10_lack (Nat.le_refl 349) hGm h) dL_law_999 lk_RL_122 (Nat.le_of_ble_eq_true rfl) sh_336 rfl rfl (Nat.le_of_ble_eq_true rfl) (Rf_of rfl) (fun x10 h => ?_)
  refine x_lcmp dL_law_1002 ?_
  refine x_if_eq dL_law_1003 (tgt := 1488) rfl ⟨fun c11 => ?_, fun c11 => ?_⟩
  · have h := h.1 c11
    exact hK I5 L6 _ hGx hGm h
  · have h := h.2 c11
    exact False.elim h
def cs_26 (Ln : Nat) (xs : Nat → Int32) (v3 : Int32) (I : MI) (L : ML) (K : MI → ML → Prop) : Prop :=
    (wp_X9_lacks I L (fun x1 I2 L3 => ((wp_X10_lacks I2 (fun x4 I5 => ((((lg_cmp x1 x4) = 0 → K I5 L3) ∧ (¬ (lg_cmp x1 x4) = 0 → False))))))))
set_option maxRecDepth 20000 in
theorem cst_26 {E : Ev} {l : Launch} {Ln : Nat} {xs : Nat → Int32} {R : MR} (hGx : GRx R) (hGm : GRm R) {v3 : Int32} {I : MI} {L : ML} {K : MI → ML → Prop}
    (hK : ∀ (I : MI) (L : ML) (R : MR), GRx R → GRm R → K I L → X E l room_1 yL_law code 4 ret (lawX E Ln xs) lwZ 1488 [(0, .ref 1100), (1, .ref 0), (2, .ref 336), (3, .int v3)] [] 349 I L R 349 50368) (h : cs_26 Ln xs v3 I L K) : X E l room_1 yL_law code 4 ret (lawX E Ln xs) lwZ 1008 [(0, .ref 1100), (1, .ref 0), (2, .ref 336), (3, .int v3)] [] 349 I L R 349 50368 := by
  unfold cs_26 at h
  refine x_aload_n dL_law_1008 rfl ?_
  refine x_cVl11 [] (mt_X9_lacks (Nat.le_of_ble_eq_true rfl) hGx h) dL_law_1009 lk_RL_123 (Nat.le_of_ble_eq_true rfl) sh_0 rfl rfl (Nat.le_of_ble_eq_true rfl) (Rf_of rfl) (fun x1 I2 L3 h => ?_)
  refine x_aload_n dL_law_1012 rfl ?_
  refine x_cVl10 [] (mt_X10_lacks (Nat.le_refl 349) hGm h) dL_law_1013 lk_RL_127 (Nat.le_of_ble_eq_true rfl) sh_336 rfl rfl (Nat.le_of_ble_eq_true rfl) (Rf_of rfl) (fun x4 I5 h => ?_)
  refine x_lcmp dL_law_1016 ?_
  refine x_if_eq dL_law_1017 (tgt := 1488) rfl ⟨fun c6 => ?_, fun c6 => ?_⟩
  · have h := h.1 c6
    exact hK I5 L3 _ hGx hGm h
  · have h := h.2 c6
    exact False.elim h
def cs_27 (Ln : Nat) (xs : Nat → Int32) (v3 : Int32) (I : MI) (L : ML) (K : MI → ML → Prop) : Prop :=
    (vp_in (v3 + 1) Ln ∧ (vp_in (v3 + 2) Ln ∧ (vp_in (v3 + 3) Ln ∧ (wp_X9_sure I L (xs (ix (v3 + 1))) (xs (ix (v3 + 2))) (xs (ix (v3 + 3))) (fun x4 I5 L6 => ((vp_in (v3 + 1) Ln ∧ (vp_in (v3 + 2) Ln ∧ (vp_in (v3 + 3) Ln ∧ (wp_X10_sure I5 (xs (ix (v3 + 1))) (xs (ix (v3 + 2))) (xs (ix (v3 + 3))) (fun x10 => (((x4 = x10 → K I5 L6) ∧ (¬ x4 = x10 → False))))))))))))))
set_option maxRecDepth 20000 in
theorem cst_27 {E : Ev} {l : Launch} {Ln : Nat} {xs : Nat → Int32} {R : MR} (hGx : GRx R) (hGm : GRm R) {v3 : Int32} {I : MI} {L : ML} {K : MI → ML → Prop}
    (hK : ∀ (I : MI) (L : ML) (R : MR), GRx R → GRm R → K I L → X E l room_1 yL_law code 4 ret (lawX E Ln xs) lwZ 1488 [(0, .ref 1100), (1, .ref 0), (2, .ref 336), (3, .int v3)] [] 349 I L R 349 50368) (h : cs_27 Ln xs v3 I L K) : X E l room_1 yL_law code 4 ret (lawX E Ln xs) lwZ 1022 [(0, .ref 1100), (1, .ref 0), (2, .ref 336), (3, .int v3)] [] 349 I L R 349 50368 := by
  unfold cs_27 at h
  refine x_aload_n dL_law_1022 rfl ?_
  refine x_aload_n dL_law_1023 rfl ?_
  refine x_iload_n dL_law_1024 rfl ?_
  refine x_iconst (v := 1) dL_law_1025 ki_1 ?_
  refine x_iadd dL_law_1026 ?_
  obtain ⟨b1, h⟩ := h
  refine x_sld dL_law_1027 b1 ?_
  refine x_aload_n dL_law_1028 rfl ?_
  refine x_iload_n dL_law_1029 rfl ?_
  refine x_iconst (v := 2) dL_law_1030 ki_2 ?_
  refine x_iadd dL_law_1031 ?_
  obtain ⟨b2, h⟩ := h
  refine x_sld dL_law_1032 b2 ?_
  refine x_aload_n dL_law_1033 rfl ?_
  refine x_iload_n dL_law_1034 rfl ?_
  refine x_iconst (v := 3) dL_law_1035 ki_3 ?_
  refine x_iadd dL_law_1036 ?_
  obtain ⟨b3, h⟩ := h
  refine x_sld dL_law_1037 b3 ?_
  refine x_cVi11 [.int (xs (ix (v3 + 1))), .int (xs (ix (v3 + 2))), .int (xs (ix (v3 + 3)))] (mt_X9_sure (Nat.le_of_ble_eq_true rfl) hGx h) dL_law_1038 lk_RL_128 (Nat.le_of_ble_eq_true rfl) sh_0 rfl rfl (Nat.le_of_ble_eq_true rfl) (Rf_of rfl) (fun x4 I5 L6 h => ?_)
  refine x_aload_n dL_law_1041 rfl ?_
  refine x_aload_n dL_law_1042 rfl ?_
  refine x_iload_n dL_law_1043 rfl ?_
  refine x_iconst (v := 1) dL_law_1044 ki_1 ?_
  refine x_iadd dL_law_1045 ?_
  obtain ⟨b7, h⟩ := h
  refine x_sld dL_law_1046 b7 ?_
  refine x_aload_n dL_law_1047 rfl ?_
  refine x_iload_n dL_law_1048 rfl ?_
  refine x_iconst (v := 2) dL_law_1049 ki_2 ?_
  refine x_iadd dL_law_1050 ?_
  obtain ⟨b8, h⟩ := h
  refine x_sld dL_law_1051 b8 ?_
  refine x_aload_n dL_law_1052 rfl ?_
  refine x_iload_n dL_law_1053 rfl ?_
  refine x_iconst (v := 3) dL_law_1054 ki_3 ?_
  refine x_iadd dL_law_1055 ?_
  obtain ⟨b9, h⟩ := h
  refine x_sld dL_law_1056 b9 ?_
  refine x_cVi00 [.int (xs (ix (v3 + 1))), .int (xs (ix (v3 + 2))), .int (xs (ix (v3 + 3)))] (mt_X10_sure (Nat.le_refl 349) hGm h) dL_law_1057 lk_RL_131 (Nat.le_of_ble_eq_true rfl) sh_336 rfl rfl (Nat.le_of_ble_eq_true rfl) (Rf_of rfl) (fun x10 h => ?_)
  refine x_icmp_eq dL_law_1060 (tgt := 1488) rfl ⟨fun c11 => ?_, fun c11 => ?_⟩
  · have h := h.1 c11
    exact hK I5 L6 _ hGx hGm h
  · have h := h.2 c11
    exact False.elim h
def cs_28 (Ln : Nat) (xs : Nat → Int32) (v3 : Int32) (I : MI) (L : ML) (K : MI → ML → Prop) : Prop :=
    (vp_in (v3 + 1) Ln ∧ (vp_in (v3 + 2) Ln ∧ (wp_X9_buys I L (xs (ix (v3 + 1))) (xs (ix (v3 + 2))) (fun x3 I4 L5 => ((vp_in (v3 + 1) Ln ∧ (vp_in (v3 + 2) Ln ∧ (wp_X10_buys I4 (xs (ix (v3 + 1))) (xs (ix (v3 + 2))) (fun x8 I9 => (((x3 = x8 → K I9 L5) ∧ (¬ x3 = x8 → False))))))))))))
set_option maxRecDepth 20000 in
theorem cst_28 {E : Ev} {l : Launch} {Ln : Nat} {xs : Nat → Int32} {R : MR} (hGx : GRx R) (hGm : GRm R) {v3 : Int32} {I : MI} {L : ML} {K : MI → ML → Prop}
    (hK : ∀ (I : MI) (L : ML) (R : MR), GRx R → GRm R → K I L → X E l room_1 yL_law code 4 ret (lawX E Ln xs) lwZ 1488 [(0, .ref 1100), (1, .ref 0), (2, .ref 336), (3, .int v3)] [] 349 I L R 349 50368) (h : cs_28 Ln xs v3 I L K) : X E l room_1 yL_law code 4 ret (lawX E Ln xs) lwZ 1065 [(0, .ref 1100), (1, .ref 0), (2, .ref 336), (3, .int v3)] [] 349 I L R 349 50368 := by
  unfold cs_28 at h
  refine x_aload_n dL_law_1065 rfl ?_
  refine x_aload_n dL_law_1066 rfl ?_
  refine x_iload_n dL_law_1067 rfl ?_
  refine x_iconst (v := 1) dL_law_1068 ki_1 ?_
  refine x_iadd dL_law_1069 ?_
  obtain ⟨b1, h⟩ := h
  refine x_sld dL_law_1070 b1 ?_
  refine x_aload_n dL_law_1071 rfl ?_
  refine x_iload_n dL_law_1072 rfl ?_
  refine x_iconst (v := 2) dL_law_1073 ki_2 ?_
  refine x_iadd dL_law_1074 ?_
  obtain ⟨b2, h⟩ := h
  refine x_sld dL_law_1075 b2 ?_
  refine x_cVi11 [.int (xs (ix (v3 + 1))), .int (xs (ix (v3 + 2)))] (mt_X9_buys (Nat.le_of_ble_eq_true rfl) hGx h) dL_law_1076 lk_RL_132 (Nat.le_of_ble_eq_true rfl) sh_0 rfl rfl (Nat.le_of_ble_eq_true rfl) (Rf_of rfl) (fun x3 I4 L5 h => ?_)
  refine x_aload_n dL_law_1079 rfl ?_
  refine x_aload_n dL_law_1080 rfl ?_
  refine x_iload_n dL_law_1081 rfl ?_
  refine x_iconst (v := 1) dL_law_1082 ki_1 ?_
  refine x_iadd dL_law_1083 ?_
  obtain ⟨b6, h⟩ := h
  refine x_sld dL_law_1084 b6 ?_
  refine x_aload_n dL_law_1085 rfl ?_
  refine x_iload_n dL_law_1086 rfl ?_
  refine x_iconst (v := 2) dL_law_1087 ki_2 ?_
  refine x_iadd dL_law_1088 ?_
  obtain ⟨b7, h⟩ := h
  refine x_sld dL_law_1089 b7 ?_
  refine x_cVi10 [.int (xs (ix (v3 + 1))), .int (xs (ix (v3 + 2)))] (mt_X10_buys (Nat.le_refl 349) hGm h) dL_law_1090 lk_RL_135 (Nat.le_of_ble_eq_true rfl) sh_336 rfl rfl (Nat.le_of_ble_eq_true rfl) (Rf_of rfl) (fun x8 I9 h => ?_)
  refine x_icmp_eq dL_law_1093 (tgt := 1488) rfl ⟨fun c10 => ?_, fun c10 => ?_⟩
  · have h := h.1 c10
    exact hK I9 L5 _ hGx hGm h
  · have h := h.2 c10
    exact False.elim h
def cs_29 (Ln : Nat) (xs : Nat → Int32) (v3 : Int32) (I : MI) (L : ML) (K : MI → ML → Prop) : Prop :=
    (vp_in (v3 + 1) Ln ∧ (vp_in (v3 + 2) Ln ∧ (wp_X9_bought I L (xs (ix (v3 + 1))) (xs (ix (v3 + 2))) (fun x3 I4 L5 => ((vp_in (v3 + 1) Ln ∧ (vp_in (v3 + 2) Ln ∧ (wp_X10_bought I4 (xs (ix (v3 + 1))) (xs (ix (v3 + 2))) (fun x8 I9 => (((x3 = x8 → K I9 L5) ∧ (¬ x3 = x8 → False))))))))))))
set_option maxRecDepth 20000 in
theorem cst_29 {E : Ev} {l : Launch} {Ln : Nat} {xs : Nat → Int32} {R : MR} (hGx : GRx R) (hGm : GRm R) {v3 : Int32} {I : MI} {L : ML} {K : MI → ML → Prop}
    (hK : ∀ (I : MI) (L : ML) (R : MR), GRx R → GRm R → K I L → X E l room_1 yL_law code 4 ret (lawX E Ln xs) lwZ 1488 [(0, .ref 1100), (1, .ref 0), (2, .ref 336), (3, .int v3)] [] 349 I L R 349 50368) (h : cs_29 Ln xs v3 I L K) : X E l room_1 yL_law code 4 ret (lawX E Ln xs) lwZ 1098 [(0, .ref 1100), (1, .ref 0), (2, .ref 336), (3, .int v3)] [] 349 I L R 349 50368 := by
  unfold cs_29 at h
  refine x_aload_n dL_law_1098 rfl ?_
  refine x_aload_n dL_law_1099 rfl ?_
  refine x_iload_n dL_law_1100 rfl ?_
  refine x_iconst (v := 1) dL_law_1101 ki_1 ?_
  refine x_iadd dL_law_1102 ?_
  obtain ⟨b1, h⟩ := h
  refine x_sld dL_law_1103 b1 ?_
  refine x_aload_n dL_law_1104 rfl ?_
  refine x_iload_n dL_law_1105 rfl ?_
  refine x_iconst (v := 2) dL_law_1106 ki_2 ?_
  refine x_iadd dL_law_1107 ?_
  obtain ⟨b2, h⟩ := h
  refine x_sld dL_law_1108 b2 ?_
  refine x_cVi11 [.int (xs (ix (v3 + 1))), .int (xs (ix (v3 + 2)))] (mt_X9_bought (Nat.le_of_ble_eq_true rfl) hGx h) dL_law_1109 lk_RL_136 (Nat.le_of_ble_eq_true rfl) sh_0 rfl rfl (Nat.le_of_ble_eq_true rfl) (Rf_of rfl) (fun x3 I4 L5 h => ?_)
  refine x_aload_n dL_law_1112 rfl ?_
  refine x_aload_n dL_law_1113 rfl ?_
  refine x_iload_n dL_law_1114 rfl ?_
  refine x_iconst (v := 1) dL_law_1115 ki_1 ?_
  refine x_iadd dL_law_1116 ?_
  obtain ⟨b6, h⟩ := h
  refine x_sld dL_law_1117 b6 ?_
  refine x_aload_n dL_law_1118 rfl ?_
  refine x_iload_n dL_law_1119 rfl ?_
  refine x_iconst (v := 2) dL_law_1120 ki_2 ?_
  refine x_iadd dL_law_1121 ?_
  obtain ⟨b7, h⟩ := h
  refine x_sld dL_law_1122 b7 ?_
  refine x_cVi10 [.int (xs (ix (v3 + 1))), .int (xs (ix (v3 + 2)))] (mt_X10_bought (Nat.le_refl 349) hGm h) dL_law_1123 lk_RL_139 (Nat.le_of_ble_eq_true rfl) sh_336 rfl rfl (Nat.le_of_ble_eq_true rfl) (Rf_of rfl) (fun x8 I9 h => ?_)
  refine x_icmp_eq dL_law_1126 (tgt := 1488) rfl ⟨fun c10 => ?_, fun c10 => ?_⟩
  · have h := h.1 c10
    exact hK I9 L5 _ hGx hGm h
  · have h := h.2 c10
    exact False.elim h
def jn_L_law_1172 (I : MI) (L : ML) (s0 : Int32) (s1 : Int32) (s3 : Int64) (kj1488 : MI → ML → Prop) : Prop :=
    (wp_X10_lacksBy I L s1 s0 (fun x10 I11 L12 => ((((lg_cmp s3 x10) = 0 → kj1488 I11 L12) ∧ (¬ (lg_cmp s3 x10) = 0 → False)))))
theorem jnt_L_law_1172 {E : Ev} {l : Launch} {Ln : Nat} {xs : Nat → Int32} {R : MR} (hGx : GRx R) (hGm : GRm R) {I : MI} {L : ML} {v3 : Int32} {s0 : Int32} {s1 : Int32} {s3 : Int64} {kj1488 : MI → ML → Prop}
    (hJ1488 : ∀ (I : MI) (L : ML), kj1488 I L → X E l room_1 yL_law code 4 ret (lawX E Ln xs) lwZ 1488 [(0, .ref 1100), (1, .ref 0), (2, .ref 336), (3, .int v3)] [] 349 I L R 349 50368) (h : jn_L_law_1172 I L s0 s1 s3 kj1488) : X E l room_1 yL_law code 4 ret (lawX E Ln xs) lwZ 1172 [(0, .ref 1100), (1, .ref 0), (2, .ref 336), (3, .int v3)] [.int s0, .int s1, .ref 336, .long s3] 349 I L R 349 50368 := by
  unfold jn_L_law_1172 at h
  refine x_cVl11 [.int s1, .int s0] (mt_X10_lacksBy (Nat.le_refl 349) hGm h) dL_law_1172 lk_RL_144 (Nat.le_of_ble_eq_true rfl) sh_336 rfl rfl (Nat.le_of_ble_eq_true rfl) (Rf_of rfl) (fun x10 I11 L12 h => ?_)
  refine x_lcmp dL_law_1175 ?_
  refine x_if_eq dL_law_1176 (tgt := 1488) rfl ⟨fun c13 => ?_, fun c13 => ?_⟩
  · have h := h.1 c13
    exact hJ1488 I11 L12 h
  · have h := h.2 c13
    exact False.elim h
def jn_L_law_1150 (Ln : Nat) (xs : Nat → Int32) (I : MI) (L : ML) (v3 : Int32) (s0 : Int32) (s1 : Int32) (kj1488 : MI → ML → Prop) : Prop :=
    (wp_X9_lacksBy I L s1 s0 (fun x4 I5 L6 => ((vp_in (v3 + 1) Ln ∧ (vp_in (v3 + 2) Ln ∧ (((xs (ix (v3 + 2))) = 0 → (jn_L_law_1172 I5 L6 0 (xs (ix (v3 + 1))) x4 (fun I14 L15 => kj1488 I14 L15))) ∧ (¬ (xs (ix (v3 + 2))) = 0 → (jn_L_law_1172 I5 L6 1 (xs (ix (v3 + 1))) x4 (fun I16 L17 => kj1488 I16 L17)))))))))
theorem jnt_L_law_1150 {E : Ev} {l : Launch} {Ln : Nat} {xs : Nat → Int32} {R : MR} (hGx : GRx R) (hGm : GRm R) {I : MI} {L : ML} {v3 : Int32} {s0 : Int32} {s1 : Int32} {kj1488 : MI → ML → Prop}
    (hJ1488 : ∀ (I : MI) (L : ML), kj1488 I L → X E l room_1 yL_law code 4 ret (lawX E Ln xs) lwZ 1488 [(0, .ref 1100), (1, .ref 0), (2, .ref 336), (3, .int v3)] [] 349 I L R 349 50368) (h : jn_L_law_1150 Ln xs I L v3 s0 s1 kj1488) : X E l room_1 yL_law code 4 ret (lawX E Ln xs) lwZ 1150 [(0, .ref 1100), (1, .ref 0), (2, .ref 336), (3, .int v3)] [.int s0, .int s1, .ref 0] 349 I L R 349 50368 := by
  unfold jn_L_law_1150 at h
  refine x_cVl11 [.int s1, .int s0] (mt_X9_lacksBy (Nat.le_of_ble_eq_true rfl) hGx h) dL_law_1150 lk_RL_140 (Nat.le_of_ble_eq_true rfl) sh_0 rfl rfl (Nat.le_of_ble_eq_true rfl) (Rf_of rfl) (fun x4 I5 L6 h => ?_)
  refine x_aload_n dL_law_1153 rfl ?_
  refine x_aload_n dL_law_1154 rfl ?_
  refine x_iload_n dL_law_1155 rfl ?_
  refine x_iconst (v := 1) dL_law_1156 ki_1 ?_
  refine x_iadd dL_law_1157 ?_
  obtain ⟨b7, h⟩ := h
  refine x_sld dL_law_1158 b7 ?_
  refine x_aload_n dL_law_1159 rfl ?_
  refine x_iload_n dL_law_1160 rfl ?_
  refine x_iconst (v := 2) dL_law_1161 ki_2 ?_
  refine x_iadd dL_law_1162 ?_
  obtain ⟨b8, h⟩ := h
  refine x_sld dL_law_1163 b8 ?_
  refine x_if_eq dL_law_1164 (tgt := 1171) rfl ⟨fun c9 => ?_, fun c9 => ?_⟩
  · have h := h.1 c9
    refine x_iconst (v := 0) dL_law_1171 ki_0 ?_
    refine jnt_L_law_1172 hGx hGm (fun I14 L15 h => ?_) h
    exact hJ1488 I14 L15 h
  · have h := h.2 c9
    refine x_iconst (v := 1) dL_law_1167 ki_1 ?_
    refine x_goto dL_law_1168 (tgt := 1172) rfl ?_
    refine jnt_L_law_1172 hGx hGm (fun I16 L17 h => ?_) h
    exact hJ1488 I16 L17 h
def cs_30 (Ln : Nat) (xs : Nat → Int32) (v3 : Int32) (I : MI) (L : ML) (K : MI → ML → Prop) : Prop :=
    (vp_in (v3 + 1) Ln ∧ (vp_in (v3 + 2) Ln ∧ (((xs (ix (v3 + 2))) = 0 → (jn_L_law_1150 Ln xs I L v3 0 (xs (ix (v3 + 1))) (fun I18 L19 => K I18 L19))) ∧ (¬ (xs (ix (v3 + 2))) = 0 → (jn_L_law_1150 Ln xs I L v3 1 (xs (ix (v3 + 1))) (fun I20 L21 => K I20 L21))))))
set_option maxRecDepth 20000 in
theorem cst_30 {E : Ev} {l : Launch} {Ln : Nat} {xs : Nat → Int32} {R : MR} (hGx : GRx R) (hGm : GRm R) {v3 : Int32} {I : MI} {L : ML} {K : MI → ML → Prop}
    (hK : ∀ (I : MI) (L : ML) (R : MR), GRx R → GRm R → K I L → X E l room_1 yL_law code 4 ret (lawX E Ln xs) lwZ 1488 [(0, .ref 1100), (1, .ref 0), (2, .ref 336), (3, .int v3)] [] 349 I L R 349 50368) (h : cs_30 Ln xs v3 I L K) : X E l room_1 yL_law code 4 ret (lawX E Ln xs) lwZ 1131 [(0, .ref 1100), (1, .ref 0), (2, .ref 336), (3, .int v3)] [] 349 I L R 349 50368 := by
  unfold cs_30 at h
  refine x_aload_n dL_law_1131 rfl ?_
  refine x_aload_n dL_law_1132 rfl ?_
  refine x_iload_n dL_law_1133 rfl ?_
  refine x_iconst (v := 1) dL_law_1134 ki_1 ?_
  refine x_iadd dL_law_1135 ?_
  obtain ⟨b1, h⟩ := h
  refine x_sld dL_law_1136 b1 ?_
  refine x_aload_n dL_law_1137 rfl ?_
  refine x_iload_n dL_law_1138 rfl ?_
  refine x_iconst (v := 2) dL_law_1139 ki_2 ?_
  refine x_iadd dL_law_1140 ?_
  obtain ⟨b2, h⟩ := h
  refine x_sld dL_law_1141 b2 ?_
  refine x_if_eq dL_law_1142 (tgt := 1149) rfl ⟨fun c3 => ?_, fun c3 => ?_⟩
  · have h := h.1 c3
    refine x_iconst (v := 0) dL_law_1149 ki_0 ?_
    refine jnt_L_law_1150 hGx hGm (fun I18 L19 h => ?_) h
    exact hK I18 L19 _ hGx hGm h
  · have h := h.2 c3
    refine x_iconst (v := 1) dL_law_1145 ki_1 ?_
    refine x_goto dL_law_1146 (tgt := 1150) rfl ?_
    refine jnt_L_law_1150 hGx hGm (fun I20 L21 h => ?_) h
    exact hK I20 L21 _ hGx hGm h
def cs_31 (Ln : Nat) (xs : Nat → Int32) (v3 : Int32) (I : MI) (L : ML) (K : MI → ML → Prop) : Prop :=
    (vp_in (v3 + 1) Ln ∧ (vp_in (v3 + 2) Ln ∧ (vp_in (v3 + 3) Ln ∧ (wp_X9_best I L (xs (ix (v3 + 1))) (xs (ix (v3 + 2))) (xs (ix (v3 + 3))) (fun x4 I5 L6 => ((vp_in (v3 + 1) Ln ∧ (vp_in (v3 + 2) Ln ∧ (vp_in (v3 + 3) Ln ∧ (wp_X10_best I5 L6 (xs (ix (v3 + 1))) (xs (ix (v3 + 2))) (xs (ix (v3 + 3))) (fun x10 I11 L12 => (((x4 = x10 → K I11 L12) ∧ (¬ x4 = x10 → False))))))))))))))
set_option maxRecDepth 20000 in
theorem cst_31 {E : Ev} {l : Launch} {Ln : Nat} {xs : Nat → Int32} {R : MR} (hGx : GRx R) (hGm : GRm R) {v3 : Int32} {I : MI} {L : ML} {K : MI → ML → Prop}
    (hK : ∀ (I : MI) (L : ML) (R : MR), GRx R → GRm R → K I L → X E l room_1 yL_law code 4 ret (lawX E Ln xs) lwZ 1488 [(0, .ref 1100), (1, .ref 0), (2, .ref 336), (3, .int v3)] [] 349 I L R 349 50368) (h : cs_31 Ln xs v3 I L K) : X E l room_1 yL_law code 4 ret (lawX E Ln xs) lwZ 1181 [(0, .ref 1100), (1, .ref 0), (2, .ref 336), (3, .int v3)] [] 349 I L R 349 50368 := by
  unfold cs_31 at h
  refine x_aload_n dL_law_1181 rfl ?_
  refine x_aload_n dL_law_1182 rfl ?_
  refine x_iload_n dL_law_1183 rfl ?_
  refine x_iconst (v := 1) dL_law_1184 ki_1 ?_
  refine x_iadd dL_law_1185 ?_
  obtain ⟨b1, h⟩ := h
  refine x_sld dL_law_1186 b1 ?_
  refine x_aload_n dL_law_1187 rfl ?_
  refine x_iload_n dL_law_1188 rfl ?_
  refine x_iconst (v := 2) dL_law_1189 ki_2 ?_
  refine x_iadd dL_law_1190 ?_
  obtain ⟨b2, h⟩ := h
  refine x_sld dL_law_1191 b2 ?_
  refine x_aload_n dL_law_1192 rfl ?_
  refine x_iload_n dL_law_1193 rfl ?_
  refine x_iconst (v := 3) dL_law_1194 ki_3 ?_
  refine x_iadd dL_law_1195 ?_
  obtain ⟨b3, h⟩ := h
  refine x_sld dL_law_1196 b3 ?_
  refine x_cVi11 [.int (xs (ix (v3 + 1))), .int (xs (ix (v3 + 2))), .int (xs (ix (v3 + 3)))] (mt_X9_best (Nat.le_of_ble_eq_true rfl) hGx h) dL_law_1197 lk_RL_145 (Nat.le_of_ble_eq_true rfl) sh_0 rfl rfl (Nat.le_of_ble_eq_true rfl) (Rf_of rfl) (fun x4 I5 L6 h => ?_)
  refine x_aload_n dL_law_1200 rfl ?_
  refine x_aload_n dL_law_1201 rfl ?_
  refine x_iload_n dL_law_1202 rfl ?_
  refine x_iconst (v := 1) dL_law_1203 ki_1 ?_
  refine x_iadd dL_law_1204 ?_
  obtain ⟨b7, h⟩ := h
  refine x_sld dL_law_1205 b7 ?_
  refine x_aload_n dL_law_1206 rfl ?_
  refine x_iload_n dL_law_1207 rfl ?_
  refine x_iconst (v := 2) dL_law_1208 ki_2 ?_
  refine x_iadd dL_law_1209 ?_
  obtain ⟨b8, h⟩ := h
  refine x_sld dL_law_1210 b8 ?_
  refine x_aload_n dL_law_1211 rfl ?_
  refine x_iload_n dL_law_1212 rfl ?_
  refine x_iconst (v := 3) dL_law_1213 ki_3 ?_
  refine x_iadd dL_law_1214 ?_
  obtain ⟨b9, h⟩ := h
  refine x_sld dL_law_1215 b9 ?_
  refine x_cVi11 [.int (xs (ix (v3 + 1))), .int (xs (ix (v3 + 2))), .int (xs (ix (v3 + 3)))] (mt_X10_best (Nat.le_refl 349) hGm h) dL_law_1216 lk_RL_148 (Nat.le_of_ble_eq_true rfl) sh_336 rfl rfl (Nat.le_of_ble_eq_true rfl) (Rf_of rfl) (fun x10 I11 L12 h => ?_)
  refine x_icmp_eq dL_law_1219 (tgt := 1488) rfl ⟨fun c13 => ?_, fun c13 => ?_⟩
  · have h := h.1 c13
    exact hK I11 L12 _ hGx hGm h
  · have h := h.2 c13
    exact False.elim h
def cs_32 (Ln : Nat) (xs : Nat → Int32) (v3 : Int32) (I : MI) (L : ML) (K : MI → ML → Prop) : Prop :=
    (vp_in (v3 + 1) Ln ∧ (wp_X9_purseFor I L (xs (ix (v3 + 1))) (fun x2 I3 L4 => ((vp_in (v3 + 1) Ln ∧ (wp_X10_purseFor I3 L4 (xs (ix (v3 + 1))) (fun x6 I7 L8 => (((x2 = x6 → K I7 L8) ∧ (¬ x2 = x6 → False))))))))))
set_option maxRecDepth 20000 in
theorem cst_32 {E : Ev} {l : Launch} {Ln : Nat} {xs : Nat → Int32} {R : MR} (hGx : GRx R) (hGm : GRm R) {v3 : Int32} {I : MI} {L : ML} {K : MI → ML → Prop}
    (hK : ∀ (I : MI) (L : ML) (R : MR), GRx R → GRm R → K I L → X E l room_1 yL_law code 4 ret (lawX E Ln xs) lwZ 1488 [(0, .ref 1100), (1, .ref 0), (2, .ref 336), (3, .int v3)] [] 349 I L R 349 50368) (h : cs_32 Ln xs v3 I L K) : X E l room_1 yL_law code 4 ret (lawX E Ln xs) lwZ 1224 [(0, .ref 1100), (1, .ref 0), (2, .ref 336), (3, .int v3)] [] 349 I L R 349 50368 := by
  unfold cs_32 at h
  refine x_aload_n dL_law_1224 rfl ?_
  refine x_aload_n dL_law_1225 rfl ?_
  refine x_iload_n dL_law_1226 rfl ?_
  refine x_iconst (v := 1) dL_law_1227 ki_1 ?_
  refine x_iadd dL_law_1228 ?_
  obtain ⟨b1, h⟩ := h
  refine x_sld dL_law_1229 b1 ?_
  refine x_cVi11 [.int (xs (ix (v3 + 1)))] (mt_X9_purseFor (Nat.le_of_ble_eq_true rfl) hGx h) dL_law_1230 lk_RL_149 (Nat.le_of_ble_eq_true rfl) sh_0 rfl rfl (Nat.le_of_ble_eq_true rfl) (Rf_of rfl) (fun x2 I3 L4 h => ?_)
  refine x_aload_n dL_law_1233 rfl ?_
  refine x_aload_n dL_law_1234 rfl ?_
  refine x_iload_n dL_law_1235 rfl ?_
  refine x_iconst (v := 1) dL_law_1236 ki_1 ?_
  refine x_iadd dL_law_1237 ?_
  obtain ⟨b5, h⟩ := h
  refine x_sld dL_law_1238 b5 ?_
  refine x_cVi11 [.int (xs (ix (v3 + 1)))] (mt_X10_purseFor (Nat.le_refl 349) hGm h) dL_law_1239 lk_RL_152 (Nat.le_of_ble_eq_true rfl) sh_336 rfl rfl (Nat.le_of_ble_eq_true rfl) (Rf_of rfl) (fun x6 I7 L8 h => ?_)
  refine x_icmp_eq dL_law_1242 (tgt := 1488) rfl ⟨fun c9 => ?_, fun c9 => ?_⟩
  · have h := h.1 c9
    exact hK I7 L8 _ hGx hGm h
  · have h := h.2 c9
    exact False.elim h
def cs_33 (Ln : Nat) (xs : Nat → Int32) (v3 : Int32) (I : MI) (L : ML) (K : MI → ML → Prop) : Prop :=
    (vp_in (v3 + 1) Ln ∧ (vp_in (v3 + 2) Ln ∧ (vp_in (v3 + 3) Ln ∧ (wp_X9_would I L (xs (ix (v3 + 1))) (xs (ix (v3 + 2))) (xs (ix (v3 + 3))) (fun x4 I5 L6 => ((vp_in (v3 + 1) Ln ∧ (vp_in (v3 + 2) Ln ∧ (vp_in (v3 + 3) Ln ∧ (wp_X10_would I5 (xs (ix (v3 + 1))) (xs (ix (v3 + 2))) (xs (ix (v3 + 3))) (fun x10 I11 => (((x4 = x10 → K I11 L6) ∧ (¬ x4 = x10 → False))))))))))))))
set_option maxRecDepth 20000 in
theorem cst_33 {E : Ev} {l : Launch} {Ln : Nat} {xs : Nat → Int32} {R : MR} (hGx : GRx R) (hGm : GRm R) {v3 : Int32} {I : MI} {L : ML} {K : MI → ML → Prop}
    (hK : ∀ (I : MI) (L : ML) (R : MR), GRx R → GRm R → K I L → X E l room_1 yL_law code 4 ret (lawX E Ln xs) lwZ 1488 [(0, .ref 1100), (1, .ref 0), (2, .ref 336), (3, .int v3)] [] 349 I L R 349 50368) (h : cs_33 Ln xs v3 I L K) : X E l room_1 yL_law code 4 ret (lawX E Ln xs) lwZ 1247 [(0, .ref 1100), (1, .ref 0), (2, .ref 336), (3, .int v3)] [] 349 I L R 349 50368 := by
  unfold cs_33 at h
  refine x_aload_n dL_law_1247 rfl ?_
  refine x_aload_n dL_law_1248 rfl ?_
  refine x_iload_n dL_law_1249 rfl ?_
  refine x_iconst (v := 1) dL_law_1250 ki_1 ?_
  refine x_iadd dL_law_1251 ?_
  obtain ⟨b1, h⟩ := h
  refine x_sld dL_law_1252 b1 ?_
  refine x_aload_n dL_law_1253 rfl ?_
  refine x_iload_n dL_law_1254 rfl ?_
  refine x_iconst (v := 2) dL_law_1255 ki_2 ?_
  refine x_iadd dL_law_1256 ?_
  obtain ⟨b2, h⟩ := h
  refine x_sld dL_law_1257 b2 ?_
  refine x_aload_n dL_law_1258 rfl ?_
  refine x_iload_n dL_law_1259 rfl ?_
  refine x_iconst (v := 3) dL_law_1260 ki_3 ?_
  refine x_iadd dL_law_1261 ?_
  obtain ⟨b3, h⟩ := h
  refine x_sld dL_law_1262 b3 ?_
  refine x_cVi11 [.int (xs (ix (v3 + 1))), .int (xs (ix (v3 + 2))), .int (xs (ix (v3 + 3)))] (mt_X9_would (Nat.le_of_ble_eq_true rfl) hGx h) dL_law_1263 lk_RL_153 (Nat.le_of_ble_eq_true rfl) sh_0 rfl rfl (Nat.le_of_ble_eq_true rfl) (Rf_of rfl) (fun x4 I5 L6 h => ?_)
  refine x_aload_n dL_law_1266 rfl ?_
  refine x_aload_n dL_law_1267 rfl ?_
  refine x_iload_n dL_law_1268 rfl ?_
  refine x_iconst (v := 1) dL_law_1269 ki_1 ?_
  refine x_iadd dL_law_1270 ?_
  obtain ⟨b7, h⟩ := h
  refine x_sld dL_law_1271 b7 ?_
  refine x_aload_n dL_law_1272 rfl ?_
  refine x_iload_n dL_law_1273 rfl ?_
  refine x_iconst (v := 2) dL_law_1274 ki_2 ?_
  refine x_iadd dL_law_1275 ?_
  obtain ⟨b8, h⟩ := h
  refine x_sld dL_law_1276 b8 ?_
  refine x_aload_n dL_law_1277 rfl ?_
  refine x_iload_n dL_law_1278 rfl ?_
  refine x_iconst (v := 3) dL_law_1279 ki_3 ?_
  refine x_iadd dL_law_1280 ?_
  obtain ⟨b9, h⟩ := h
  refine x_sld dL_law_1281 b9 ?_
  refine x_cVi10 [.int (xs (ix (v3 + 1))), .int (xs (ix (v3 + 2))), .int (xs (ix (v3 + 3)))] (mt_X10_would (Nat.le_refl 349) hGm h) dL_law_1282 lk_RL_156 (Nat.le_of_ble_eq_true rfl) sh_336 rfl rfl (Nat.le_of_ble_eq_true rfl) (Rf_of rfl) (fun x10 I11 h => ?_)
  refine x_icmp_eq dL_law_1285 (tgt := 1488) rfl ⟨fun c12 => ?_, fun c12 => ?_⟩
  · have h := h.1 c12
    exact hK I11 L6 _ hGx hGm h
  · have h := h.2 c12
    exact False.elim h
def cs_34 (Ln : Nat) (xs : Nat → Int32) (v3 : Int32) (I : MI) (L : ML) (K : MI → ML → Prop) : Prop :=
    (vp_in (v3 + 1) Ln ∧ (vp_in (v3 + 2) Ln ∧ (vp_in (v3 + 3) Ln ∧ (vp_in (v3 + 4) Ln ∧ (wp_X9_spared I L (xs (ix (v3 + 1))) (xs (ix (v3 + 2))) (xs (ix (v3 + 3))) (xs (ix (v3 + 4))) (fun x5 I6 L7 => ((vp_in (v3 + 1) Ln ∧ (vp_in (v3 + 2) Ln ∧ (vp_in (v3 + 3) Ln ∧ (vp_in (v3 + 4) Ln ∧ (wp_X10_spared I6 (xs (ix (v3 + 1))) (xs (ix (v3 + 2))) (xs (ix (v3 + 3))) (xs (ix (v3 + 4))) (fun x12 I13 => (((x5 = x12 → K I13 L7) ∧ (¬ x5 = x12 → False))))))))))))))))
set_option maxRecDepth 20000 in
theorem cst_34 {E : Ev} {l : Launch} {Ln : Nat} {xs : Nat → Int32} {R : MR} (hGx : GRx R) (hGm : GRm R) {v3 : Int32} {I : MI} {L : ML} {K : MI → ML → Prop}
    (hK : ∀ (I : MI) (L : ML) (R : MR), GRx R → GRm R → K I L → X E l room_1 yL_law code 4 ret (lawX E Ln xs) lwZ 1488 [(0, .ref 1100), (1, .ref 0), (2, .ref 336), (3, .int v3)] [] 349 I L R 349 50368) (h : cs_34 Ln xs v3 I L K) : X E l room_1 yL_law code 4 ret (lawX E Ln xs) lwZ 1290 [(0, .ref 1100), (1, .ref 0), (2, .ref 336), (3, .int v3)] [] 349 I L R 349 50368 := by
  unfold cs_34 at h
  refine x_aload_n dL_law_1290 rfl ?_
  refine x_aload_n dL_law_1291 rfl ?_
  refine x_iload_n dL_law_1292 rfl ?_
  refine x_iconst (v := 1) dL_law_1293 ki_1 ?_
  refine x_iadd dL_law_1294 ?_
  obtain ⟨b1, h⟩ := h
  refine x_sld dL_law_1295 b1 ?_
  refine x_aload_n dL_law_1296 rfl ?_
  refine x_iload_n dL_law_1297 rfl ?_
  refine x_iconst (v := 2) dL_law_1298 ki_2 ?_
  refine x_iadd dL_law_1299 ?_
  obtain ⟨b2, h⟩ := h
  refine x_sld dL_law_1300 b2 ?_
  refine x_aload_n dL_law_1301 rfl ?_
  refine x_iload_n dL_law_1302 rfl ?_
  refine x_iconst (v := 3) dL_law_1303 ki_3 ?_
  refine x_iadd dL_law_1304 ?_
  obtain ⟨b3, h⟩ := h
  refine x_sld dL_law_1305 b3 ?_
  refine x_aload_n dL_law_1306 rfl ?_
  refine x_iload_n dL_law_1307 rfl ?_
  refine x_iconst (v := 4) dL_law_1308 ki_4 ?_
  refine x_iadd dL_law_1309 ?_
  obtain ⟨b4, h⟩ := h
  refine x_sld dL_law_1310 b4 ?_
  refine x_cVi11 [.int (xs (ix (v3 + 1))), .int (xs (ix (v3 + 2))), .int (xs (ix (v3 + 3))), .int (xs (ix (v3 + 4)))] (mt_X9_spared (Nat.le_of_ble_eq_true rfl) hGx h) dL_law_1311 lk_RL_157 (Nat.le_of_ble_eq_true rfl) sh_0 rfl rfl (Nat.le_of_ble_eq_true rfl) (Rf_of rfl) (fun x5 I6 L7 h => ?_)
  refine x_aload_n dL_law_1314 rfl ?_
  refine x_aload_n dL_law_1315 rfl ?_
  refine x_iload_n dL_law_1316 rfl ?_
  refine x_iconst (v := 1) dL_law_1317 ki_1 ?_
  refine x_iadd dL_law_1318 ?_
  obtain ⟨b8, h⟩ := h
  refine x_sld dL_law_1319 b8 ?_
  refine x_aload_n dL_law_1320 rfl ?_
  refine x_iload_n dL_law_1321 rfl ?_
  refine x_iconst (v := 2) dL_law_1322 ki_2 ?_
  refine x_iadd dL_law_1323 ?_
  obtain ⟨b9, h⟩ := h
  refine x_sld dL_law_1324 b9 ?_
  refine x_aload_n dL_law_1325 rfl ?_
  refine x_iload_n dL_law_1326 rfl ?_
  refine x_iconst (v := 3) dL_law_1327 ki_3 ?_
  refine x_iadd dL_law_1328 ?_
  obtain ⟨b10, h⟩ := h
  refine x_sld dL_law_1329 b10 ?_
  refine x_aload_n dL_law_1330 rfl ?_
  refine x_iload_n dL_law_1331 rfl ?_
  refine x_iconst (v := 4) dL_law_1332 ki_4 ?_
  refine x_iadd dL_law_1333 ?_
  obtain ⟨b11, h⟩ := h
  refine x_sld dL_law_1334 b11 ?_
  refine x_cVi10 [.int (xs (ix (v3 + 1))), .int (xs (ix (v3 + 2))), .int (xs (ix (v3 + 3))), .int (xs (ix (v3 + 4)))] (mt_X10_spared (Nat.le_refl 349) hGm h) dL_law_1335 lk_RL_161 (Nat.le_of_ble_eq_true rfl) sh_336 rfl rfl (Nat.le_of_ble_eq_true rfl) (Rf_of rfl) (fun x12 I13 h => ?_)
  refine x_icmp_eq dL_law_1338 (tgt := 1488) rfl ⟨fun c14 => ?_, fun c14 => ?_⟩
  · have h := h.1 c14
    exact hK I13 L7 _ hGx hGm h
  · have h := h.2 c14
    exact False.elim h
def cs_35 (Ln : Nat) (xs : Nat → Int32) (v3 : Int32) (I : MI) (L : ML) (K : MI → ML → Prop) : Prop :=
    (vp_in (v3 + 1) Ln ∧ (vp_in (v3 + 2) Ln ∧ (vp_in (v3 + 3) Ln ∧ (vp_in (v3 + 4) Ln ∧ (wp_X9_by I L (xs (ix (v3 + 1))) (xs (ix (v3 + 2))) (xs (ix (v3 + 3))) (xs (ix (v3 + 4))) (fun x5 I6 L7 => ((vp_in (v3 + 1) Ln ∧ (vp_in (v3 + 2) Ln ∧ (vp_in (v3 + 3) Ln ∧ (vp_in (v3 + 4) Ln ∧ (wp_X10_by I6 (xs (ix (v3 + 1))) (xs (ix (v3 + 2))) (xs (ix (v3 + 3))) (xs (ix (v3 + 4))) (fun x12 I13 => (((x5 = x12 → K I13 L7) ∧ (¬ x5 = x12 → False))))))))))))))))
set_option maxRecDepth 20000 in
theorem cst_35 {E : Ev} {l : Launch} {Ln : Nat} {xs : Nat → Int32} {R : MR} (hGx : GRx R) (hGm : GRm R) {v3 : Int32} {I : MI} {L : ML} {K : MI → ML → Prop}
    (hK : ∀ (I : MI) (L : ML) (R : MR), GRx R → GRm R → K I L → X E l room_1 yL_law code 4 ret (lawX E Ln xs) lwZ 1488 [(0, .ref 1100), (1, .ref 0), (2, .ref 336), (3, .int v3)] [] 349 I L R 349 50368) (h : cs_35 Ln xs v3 I L K) : X E l room_1 yL_law code 4 ret (lawX E Ln xs) lwZ 1343 [(0, .ref 1100), (1, .ref 0), (2, .ref 336), (3, .int v3)] [] 349 I L R 349 50368 := by
  unfold cs_35 at h
  refine x_aload_n dL_law_1343 rfl ?_
  refine x_aload_n dL_law_1344 rfl ?_
  refine x_iload_n dL_law_1345 rfl ?_
  refine x_iconst (v := 1) dL_law_1346 ki_1 ?_
  refine x_iadd dL_law_1347 ?_
  obtain ⟨b1, h⟩ := h
  refine x_sld dL_law_1348 b1 ?_
  refine x_aload_n dL_law_1349 rfl ?_
  refine x_iload_n dL_law_1350 rfl ?_
  refine x_iconst (v := 2) dL_law_1351 ki_2 ?_
  refine x_iadd dL_law_1352 ?_
  obtain ⟨b2, h⟩ := h
  refine x_sld dL_law_1353 b2 ?_
  refine x_aload_n dL_law_1354 rfl ?_
  refine x_iload_n dL_law_1355 rfl ?_
  refine x_iconst (v := 3) dL_law_1356 ki_3 ?_
  refine x_iadd dL_law_1357 ?_
  obtain ⟨b3, h⟩ := h
  refine x_sld dL_law_1358 b3 ?_
  refine x_aload_n dL_law_1359 rfl ?_
  refine x_iload_n dL_law_1360 rfl ?_
  refine x_iconst (v := 4) dL_law_1361 ki_4 ?_
  refine x_iadd dL_law_1362 ?_
  obtain ⟨b4, h⟩ := h
  refine x_sld dL_law_1363 b4 ?_
  refine x_cVi11 [.int (xs (ix (v3 + 1))), .int (xs (ix (v3 + 2))), .int (xs (ix (v3 + 3))), .int (xs (ix (v3 + 4)))] (mt_X9_by (Nat.le_of_ble_eq_true rfl) hGx h) dL_law_1364 lk_RL_162 (Nat.le_of_ble_eq_true rfl) sh_0 rfl rfl (Nat.le_of_ble_eq_true rfl) (Rf_of rfl) (fun x5 I6 L7 h => ?_)
  refine x_aload_n dL_law_1367 rfl ?_
  refine x_aload_n dL_law_1368 rfl ?_
  refine x_iload_n dL_law_1369 rfl ?_
  refine x_iconst (v := 1) dL_law_1370 ki_1 ?_
  refine x_iadd dL_law_1371 ?_
  obtain ⟨b8, h⟩ := h
  refine x_sld dL_law_1372 b8 ?_
  refine x_aload_n dL_law_1373 rfl ?_
  refine x_iload_n dL_law_1374 rfl ?_
  refine x_iconst (v := 2) dL_law_1375 ki_2 ?_
  refine x_iadd dL_law_1376 ?_
  obtain ⟨b9, h⟩ := h
  refine x_sld dL_law_1377 b9 ?_
  refine x_aload_n dL_law_1378 rfl ?_
  refine x_iload_n dL_law_1379 rfl ?_
  refine x_iconst (v := 3) dL_law_1380 ki_3 ?_
  refine x_iadd dL_law_1381 ?_
  obtain ⟨b10, h⟩ := h
  refine x_sld dL_law_1382 b10 ?_
  refine x_aload_n dL_law_1383 rfl ?_
  refine x_iload_n dL_law_1384 rfl ?_
  refine x_iconst (v := 4) dL_law_1385 ki_4 ?_
  refine x_iadd dL_law_1386 ?_
  obtain ⟨b11, h⟩ := h
  refine x_sld dL_law_1387 b11 ?_
  refine x_cVi10 [.int (xs (ix (v3 + 1))), .int (xs (ix (v3 + 2))), .int (xs (ix (v3 + 3))), .int (xs (ix (v3 + 4)))] (mt_X10_by (Nat.le_refl 349) hGm h) dL_law_1388 lk_RL_165 (Nat.le_of_ble_eq_true rfl) sh_336 rfl rfl (Nat.le_of_ble_eq_true rfl) (Rf_of rfl) (fun x12 I13 h => ?_)
  refine x_icmp_eq dL_law_1391 (tgt := 1488) rfl ⟨fun c14 => ?_, fun c14 => ?_⟩
  · have h := h.1 c14
    exact hK I13 L7 _ hGx hGm h
  · have h := h.2 c14
    exact False.elim h
def cs_36 (Ln : Nat) (xs : Nat → Int32) (v3 : Int32) (I : MI) (L : ML) (K : MI → ML → Prop) : Prop :=
    (vp_in (v3 + 1) Ln ∧ (vp_in (v3 + 2) Ln ∧ (wp_X9_bestKeep I L (xs (ix (v3 + 1))) (xs (ix (v3 + 2))) (fun x3 I4 L5 => ((vp_in (v3 + 1) Ln ∧ (vp_in (v3 + 2) Ln ∧ (wp_X10_bestKeep I4 (xs (ix (v3 + 1))) (xs (ix (v3 + 2))) (fun x8 I9 => (((x3 = x8 → K I9 L5) ∧ (¬ x3 = x8 → False))))))))))))
set_option maxRecDepth 20000 in
theorem cst_36 {E : Ev} {l : Launch} {Ln : Nat} {xs : Nat → Int32} {R : MR} (hGx : GRx R) (hGm : GRm R) {v3 : Int32} {I : MI} {L : ML} {K : MI → ML → Prop}
    (hK : ∀ (I : MI) (L : ML) (R : MR), GRx R → GRm R → K I L → X E l room_1 yL_law code 4 ret (lawX E Ln xs) lwZ 1488 [(0, .ref 1100), (1, .ref 0), (2, .ref 336), (3, .int v3)] [] 349 I L R 349 50368) (h : cs_36 Ln xs v3 I L K) : X E l room_1 yL_law code 4 ret (lawX E Ln xs) lwZ 1396 [(0, .ref 1100), (1, .ref 0), (2, .ref 336), (3, .int v3)] [] 349 I L R 349 50368 := by
  unfold cs_36 at h
  refine x_aload_n dL_law_1396 rfl ?_
  refine x_aload_n dL_law_1397 rfl ?_
  refine x_iload_n dL_law_1398 rfl ?_
  refine x_iconst (v := 1) dL_law_1399 ki_1 ?_
  refine x_iadd dL_law_1400 ?_
  obtain ⟨b1, h⟩ := h
  refine x_sld dL_law_1401 b1 ?_
  refine x_aload_n dL_law_1402 rfl ?_
  refine x_iload_n dL_law_1403 rfl ?_
  refine x_iconst (v := 2) dL_law_1404 ki_2 ?_
  refine x_iadd dL_law_1405 ?_
  obtain ⟨b2, h⟩ := h
  refine x_sld dL_law_1406 b2 ?_
  refine x_cVi11 [.int (xs (ix (v3 + 1))), .int (xs (ix (v3 + 2)))] (mt_X9_bestKeep (Nat.le_of_ble_eq_true rfl) hGx h) dL_law_1407 lk_RL_166 (Nat.le_of_ble_eq_true rfl) sh_0 rfl rfl (Nat.le_of_ble_eq_true rfl) (Rf_of rfl) (fun x3 I4 L5 h => ?_)
  refine x_aload_n dL_law_1410 rfl ?_
  refine x_aload_n dL_law_1411 rfl ?_
  refine x_iload_n dL_law_1412 rfl ?_
  refine x_iconst (v := 1) dL_law_1413 ki_1 ?_
  refine x_iadd dL_law_1414 ?_
  obtain ⟨b6, h⟩ := h
  refine x_sld dL_law_1415 b6 ?_
  refine x_aload_n dL_law_1416 rfl ?_
  refine x_iload_n dL_law_1417 rfl ?_
  refine x_iconst (v := 2) dL_law_1418 ki_2 ?_
  refine x_iadd dL_law_1419 ?_
  obtain ⟨b7, h⟩ := h
  refine x_sld dL_law_1420 b7 ?_
  refine x_cVi10 [.int (xs (ix (v3 + 1))), .int (xs (ix (v3 + 2)))] (mt_X10_bestKeep (Nat.le_refl 349) hGm h) dL_law_1421 lk_RL_169 (Nat.le_of_ble_eq_true rfl) sh_336 rfl rfl (Nat.le_of_ble_eq_true rfl) (Rf_of rfl) (fun x8 I9 h => ?_)
  refine x_icmp_eq dL_law_1424 (tgt := 1488) rfl ⟨fun c10 => ?_, fun c10 => ?_⟩
  · have h := h.1 c10
    exact hK I9 L5 _ hGx hGm h
  · have h := h.2 c10
    exact False.elim h
def cs_37 (Ln : Nat) (xs : Nat → Int32) (v3 : Int32) (I : MI) (L : ML) (K : MI → ML → Prop) : Prop :=
    (wp_X9_quiet I L (fun x1 I2 L3 => ((wp_X10_quiet I2 (fun x4 I5 => (((x1 = x4 → K I5 L3) ∧ (¬ x1 = x4 → False))))))))
set_option maxRecDepth 20000 in
theorem cst_37 {E : Ev} {l : Launch} {Ln : Nat} {xs : Nat → Int32} {R : MR} (hGx : GRx R) (hGm : GRm R) {v3 : Int32} {I : MI} {L : ML} {K : MI → ML → Prop}
    (hK : ∀ (I : MI) (L : ML) (R : MR), GRx R → GRm R → K I L → X E l room_1 yL_law code 4 ret (lawX E Ln xs) lwZ 1488 [(0, .ref 1100), (1, .ref 0), (2, .ref 336), (3, .int v3)] [] 349 I L R 349 50368) (h : cs_37 Ln xs v3 I L K) : X E l room_1 yL_law code 4 ret (lawX E Ln xs) lwZ 1429 [(0, .ref 1100), (1, .ref 0), (2, .ref 336), (3, .int v3)] [] 349 I L R 349 50368 := by
  unfold cs_37 at h
  refine x_aload_n dL_law_1429 rfl ?_
  refine x_cVi11 [] (mt_X9_quiet (Nat.le_of_ble_eq_true rfl) hGx h) dL_law_1430 lk_RL_170 (Nat.le_of_ble_eq_true rfl) sh_0 rfl rfl (Nat.le_of_ble_eq_true rfl) (Rf_of rfl) (fun x1 I2 L3 h => ?_)
  refine x_aload_n dL_law_1433 rfl ?_
  refine x_cVi10 [] (mt_X10_quiet (Nat.le_refl 349) hGm h) dL_law_1434 lk_RL_173 (Nat.le_of_ble_eq_true rfl) sh_336 rfl rfl (Nat.le_of_ble_eq_true rfl) (Rf_of rfl) (fun x4 I5 h => ?_)
  refine x_icmp_eq dL_law_1437 (tgt := 1488) rfl ⟨fun c6 => ?_, fun c6 => ?_⟩
  · have h := h.1 c6
    exact hK I5 L3 _ hGx hGm h
  · have h := h.2 c6
    exact False.elim h
def cs_38 (Ln : Nat) (xs : Nat → Int32) (v3 : Int32) (I : MI) (L : ML) (K : MI → ML → Prop) : Prop :=
    (vp_in (v3 + 1) Ln ∧ (wp_X9_spell I (xs (ix (v3 + 1))) (fun x2 I3 => ((vp_in (v3 + 1) Ln ∧ (wp_X10_spell I3 (xs (ix (v3 + 1))) (fun x5 I6 => (((x2 = x5 → K I6 L) ∧ (¬ x2 = x5 → False))))))))))
set_option maxRecDepth 20000 in
theorem cst_38 {E : Ev} {l : Launch} {Ln : Nat} {xs : Nat → Int32} {R : MR} (hGx : GRx R) (hGm : GRm R) {v3 : Int32} {I : MI} {L : ML} {K : MI → ML → Prop}
    (hK : ∀ (I : MI) (L : ML) (R : MR), GRx R → GRm R → K I L → X E l room_1 yL_law code 4 ret (lawX E Ln xs) lwZ 1488 [(0, .ref 1100), (1, .ref 0), (2, .ref 336), (3, .int v3)] [] 349 I L R 349 50368) (h : cs_38 Ln xs v3 I L K) : X E l room_1 yL_law code 4 ret (lawX E Ln xs) lwZ 1442 [(0, .ref 1100), (1, .ref 0), (2, .ref 336), (3, .int v3)] [] 349 I L R 349 50368 := by
  unfold cs_38 at h
  refine x_aload_n dL_law_1442 rfl ?_
  refine x_aload_n dL_law_1443 rfl ?_
  refine x_iload_n dL_law_1444 rfl ?_
  refine x_iconst (v := 1) dL_law_1445 ki_1 ?_
  refine x_iadd dL_law_1446 ?_
  obtain ⟨b1, h⟩ := h
  refine x_sld dL_law_1447 b1 ?_
  refine x_cVi10 [.int (xs (ix (v3 + 1)))] (mt_X9_spell (Nat.le_of_ble_eq_true rfl) hGx h) dL_law_1448 lk_RL_174 (Nat.le_of_ble_eq_true rfl) sh_0 rfl rfl (Nat.le_of_ble_eq_true rfl) (Rf_of rfl) (fun x2 I3 h => ?_)
  refine x_aload_n dL_law_1451 rfl ?_
  refine x_aload_n dL_law_1452 rfl ?_
  refine x_iload_n dL_law_1453 rfl ?_
  refine x_iconst (v := 1) dL_law_1454 ki_1 ?_
  refine x_iadd dL_law_1455 ?_
  obtain ⟨b4, h⟩ := h
  refine x_sld dL_law_1456 b4 ?_
  refine x_cVi10 [.int (xs (ix (v3 + 1)))] (mt_X10_spell (Nat.le_refl 349) hGm h) dL_law_1457 lk_RL_177 (Nat.le_of_ble_eq_true rfl) sh_336 rfl rfl (Nat.le_of_ble_eq_true rfl) (Rf_of rfl) (fun x5 I6 h => ?_)
  refine x_icmp_eq dL_law_1460 (tgt := 1488) rfl ⟨fun c7 => ?_, fun c7 => ?_⟩
  · have h := h.1 c7
    exact hK I6 L _ hGx hGm h
  · have h := h.2 c7
    exact False.elim h
def cs_39 (Ln : Nat) (xs : Nat → Int32) (v3 : Int32) (I : MI) (L : ML) (K : MI → ML → Prop) : Prop :=
    (vp_in (v3 + 1) Ln ∧ (wp_X9_count I (xs (ix (v3 + 1))) (fun x2 => ((vp_in (v3 + 1) Ln ∧ (wp_X10_count I (xs (ix (v3 + 1))) (fun x4 => (((x2 = x4 → K I L) ∧ (¬ x2 = x4 → False))))))))))
set_option maxRecDepth 20000 in
theorem cst_39 {E : Ev} {l : Launch} {Ln : Nat} {xs : Nat → Int32} {R : MR} (hGx : GRx R) (hGm : GRm R) {v3 : Int32} {I : MI} {L : ML} {K : MI → ML → Prop}
    (hK : ∀ (I : MI) (L : ML) (R : MR), GRx R → GRm R → K I L → X E l room_1 yL_law code 4 ret (lawX E Ln xs) lwZ 1488 [(0, .ref 1100), (1, .ref 0), (2, .ref 336), (3, .int v3)] [] 349 I L R 349 50368) (h : cs_39 Ln xs v3 I L K) : X E l room_1 yL_law code 4 ret (lawX E Ln xs) lwZ 1465 [(0, .ref 1100), (1, .ref 0), (2, .ref 336), (3, .int v3)] [] 349 I L R 349 50368 := by
  unfold cs_39 at h
  refine x_aload_n dL_law_1465 rfl ?_
  refine x_aload_n dL_law_1466 rfl ?_
  refine x_iload_n dL_law_1467 rfl ?_
  refine x_iconst (v := 1) dL_law_1468 ki_1 ?_
  refine x_iadd dL_law_1469 ?_
  obtain ⟨b1, h⟩ := h
  refine x_sld dL_law_1470 b1 ?_
  refine x_cVi00 [.int (xs (ix (v3 + 1)))] (mt_X9_count (Nat.le_of_ble_eq_true rfl) hGx h) dL_law_1471 lk_RL_178 (Nat.le_of_ble_eq_true rfl) sh_0 rfl rfl (Nat.le_of_ble_eq_true rfl) (Rf_of rfl) (fun x2 h => ?_)
  refine x_aload_n dL_law_1474 rfl ?_
  refine x_aload_n dL_law_1475 rfl ?_
  refine x_iload_n dL_law_1476 rfl ?_
  refine x_iconst (v := 1) dL_law_1477 ki_1 ?_
  refine x_iadd dL_law_1478 ?_
  obtain ⟨b3, h⟩ := h
  refine x_sld dL_law_1479 b3 ?_
  refine x_cVi00 [.int (xs (ix (v3 + 1)))] (mt_X10_count (Nat.le_refl 349) hGm h) dL_law_1480 lk_RL_181 (Nat.le_of_ble_eq_true rfl) sh_336 rfl rfl (Nat.le_of_ble_eq_true rfl) (Rf_of rfl) (fun x4 h => ?_)
  refine x_icmp_eq dL_law_1483 (tgt := 1488) rfl ⟨fun c5 => ?_, fun c5 => ?_⟩
  · have h := h.1 c5
    exact hK I L _ hGx hGm h
  · have h := h.2 c5
    exact False.elim h
def lp_law (Ln : Nat) (xs : Nat → Int32) : Nat → Int32 → MI → ML → Prop
  | 0, _, _, _ => False
  | n + 1, v3, I, L =>
    ((Int32.ofNat Ln - 6) < v3 → True) ∧ (¬ (Int32.ofNat Ln - 6) < v3 → (vp_in v3 Ln ∧ ((((xs (ix v3)) &&& 63) = 0 → cs_0 Ln xs v3 I L (fun I L => lp_law Ln xs n (v3 + 6) I L)) ∧ (((xs (ix v3)) &&& 63) = 1 → cs_1 Ln xs v3 I L (fun I L => lp_law Ln xs n (v3 + 6) I L)) ∧ (((xs (ix v3)) &&& 63) = 2 → cs_2 Ln xs v3 I L (fun I L => lp_law Ln xs n (v3 + 6) I L)) ∧ (((xs (ix v3)) &&& 63) = 3 → cs_3 Ln xs v3 I L (fun I L => lp_law Ln xs n (v3 + 6) I L)) ∧ (((xs (ix v3)) &&& 63) = 4 → cs_4 Ln xs v3 I L (fun I L => lp_law Ln xs n (v3 + 6) I L)) ∧ (((xs (ix v3)) &&& 63) = 5 → cs_5 Ln xs v3 I L (fun I L => lp_law Ln xs n (v3 + 6) I L)) ∧ (((xs (ix v3)) &&& 63) = 6 → cs_6 Ln xs v3 I L (fun I L => lp_law Ln xs n (v3 + 6) I L)) ∧ (((xs (ix v3)) &&& 63) = 7 → cs_7 Ln xs v3 I L (fun I L => lp_law Ln xs n (v3 + 6) I L)) ∧ (((xs (ix v3)) &&& 63) = 8 → cs_8 Ln xs v3 I L (fun I L => lp_law Ln xs n (v3 + 6) I L)) ∧ (((xs (ix v3)) &&& 63) = 9 → cs_9 Ln xs v3 I L (fun I L => lp_law Ln xs n (v3 + 6) I L)) ∧ (((xs (ix v3)) &&& 63) = 10 → cs_10 Ln xs v3 I L (fun I L => lp_law Ln xs n (v3 + 6) I L)) ∧ (((xs (ix v3)) &&& 63) = 11 → cs_11 Ln xs v3 I L (fun I L => lp_law Ln xs n (v3 + 6) I L)) ∧ (((xs (ix v3)) &&& 63) = 12 → cs_12 Ln xs v3 I L (fun I L => lp_law Ln xs n (v3 + 6) I L)) ∧ (((xs (ix v3)) &&& 63) = 13 → cs_13 Ln xs v3 I L (fun I L => lp_law Ln xs n (v3 + 6) I L)) ∧ (((xs (ix v3)) &&& 63) = 14 → cs_14 Ln xs v3 I L (fun I L => lp_law Ln xs n (v3 + 6) I L)) ∧ (((xs (ix v3)) &&& 63) = 15 → cs_15 Ln xs v3 I L (fun I L => lp_law Ln xs n (v3 + 6) I L)) ∧ (((xs (ix v3)) &&& 63) = 16 → cs_16 Ln xs v3 I L (fun I L => lp_law Ln xs n (v3 + 6) I L)) ∧ (((xs (ix v3)) &&& 63) = 17 → cs_17 Ln xs v3 I L (fun I L => lp_law Ln xs n (v3 + 6) I L)) ∧ (((xs (ix v3)) &&& 63) = 18 → cs_18 Ln xs v3 I L (fun I L => lp_law Ln xs n (v3 + 6) I L)) ∧ (((xs (ix v3)) &&& 63) = 19 → cs_19 Ln xs v3 I L (fun I L => lp_law Ln xs n (v3 + 6) I L)) ∧ (((xs (ix v3)) &&& 63) = 20 → cs_20 Ln xs v3 I L (fun I L => lp_law Ln xs n (v3 + 6) I L)) ∧ (((xs (ix v3)) &&& 63) = 21 → cs_21 Ln xs v3 I L (fun I L => lp_law Ln xs n (v3 + 6) I L)) ∧ (((xs (ix v3)) &&& 63) = 22 → cs_22 Ln xs v3 I L (fun I L => lp_law Ln xs n (v3 + 6) I L)) ∧ (((xs (ix v3)) &&& 63) = 23 → cs_23 Ln xs v3 I L (fun I L => lp_law Ln xs n (v3 + 6) I L)) ∧ (((xs (ix v3)) &&& 63) = 24 → cs_24 Ln xs v3 I L (fun I L => lp_law Ln xs n (v3 + 6) I L)) ∧ (((xs (ix v3)) &&& 63) = 25 → cs_25 Ln xs v3 I L (fun I L => lp_law Ln xs n (v3 + 6) I L)) ∧ (((xs (ix v3)) &&& 63) = 26 → cs_26 Ln xs v3 I L (fun I L => lp_law Ln xs n (v3 + 6) I L)) ∧ (((xs (ix v3)) &&& 63) = 27 → cs_27 Ln xs v3 I L (fun I L => lp_law Ln xs n (v3 + 6) I L)) ∧ (((xs (ix v3)) &&& 63) = 28 → cs_28 Ln xs v3 I L (fun I L => lp_law Ln xs n (v3 + 6) I L)) ∧ (((xs (ix v3)) &&& 63) = 29 → cs_29 Ln xs v3 I L (fun I L => lp_law Ln xs n (v3 + 6) I L)) ∧ (((xs (ix v3)) &&& 63) = 30 → cs_30 Ln xs v3 I L (fun I L => lp_law Ln xs n (v3 + 6) I L)) ∧ (((xs (ix v3)) &&& 63) = 31 → cs_31 Ln xs v3 I L (fun I L => lp_law Ln xs n (v3 + 6) I L)) ∧ (((xs (ix v3)) &&& 63) = 32 → cs_32 Ln xs v3 I L (fun I L => lp_law Ln xs n (v3 + 6) I L)) ∧ (((xs (ix v3)) &&& 63) = 33 → cs_33 Ln xs v3 I L (fun I L => lp_law Ln xs n (v3 + 6) I L)) ∧ (((xs (ix v3)) &&& 63) = 34 → cs_34 Ln xs v3 I L (fun I L => lp_law Ln xs n (v3 + 6) I L)) ∧ (((xs (ix v3)) &&& 63) = 35 → cs_35 Ln xs v3 I L (fun I L => lp_law Ln xs n (v3 + 6) I L)) ∧ (((xs (ix v3)) &&& 63) = 36 → cs_36 Ln xs v3 I L (fun I L => lp_law Ln xs n (v3 + 6) I L)) ∧ (((xs (ix v3)) &&& 63) = 37 → cs_37 Ln xs v3 I L (fun I L => lp_law Ln xs n (v3 + 6) I L)) ∧ (((xs (ix v3)) &&& 63) = 38 → cs_38 Ln xs v3 I L (fun I L => lp_law Ln xs n (v3 + 6) I L)) ∧ (((xs (ix v3)) &&& 63) = 39 → cs_39 Ln xs v3 I L (fun I L => lp_law Ln xs n (v3 + 6) I L)) ∧ ((¬ ((xs (ix v3)) &&& 63) = 0 ∧ ¬ ((xs (ix v3)) &&& 63) = 1 ∧ ¬ ((xs (ix v3)) &&& 63) = 2 ∧ ¬ ((xs (ix v3)) &&& 63) = 3 ∧ ¬ ((xs (ix v3)) &&& 63) = 4 ∧ ¬ ((xs (ix v3)) &&& 63) = 5 ∧ ¬ ((xs (ix v3)) &&& 63) = 6 ∧ ¬ ((xs (ix v3)) &&& 63) = 7 ∧ ¬ ((xs (ix v3)) &&& 63) = 8 ∧ ¬ ((xs (ix v3)) &&& 63) = 9 ∧ ¬ ((xs (ix v3)) &&& 63) = 10 ∧ ¬ ((xs (ix v3)) &&& 63) = 11 ∧ ¬ ((xs (ix v3)) &&& 63) = 12 ∧ ¬ ((xs (ix v3)) &&& 63) = 13 ∧ ¬ ((xs (ix v3)) &&& 63) = 14 ∧ ¬ ((xs (ix v3)) &&& 63) = 15 ∧ ¬ ((xs (ix v3)) &&& 63) = 16 ∧ ¬ ((xs (ix v3)) &&& 63) = 17 ∧ ¬ ((xs (ix v3)) &&& 63) = 18 ∧ ¬ ((xs (ix v3)) &&& 63) = 19 ∧ ¬ ((xs (ix v3)) &&& 63) = 20 ∧ ¬ ((xs (ix v3)) &&& 63) = 21 ∧ ¬ ((xs (ix v3)) &&& 63) = 22 ∧ ¬ ((xs (ix v3)) &&& 63) = 23 ∧ ¬ ((xs (ix v3)) &&& 63) = 24 ∧ ¬ ((xs (ix v3)) &&& 63) = 25 ∧ ¬ ((xs (ix v3)) &&& 63) = 26 ∧ ¬ ((xs (ix v3)) &&& 63) = 27 ∧ ¬ ((xs (ix v3)) &&& 63) = 28 ∧ ¬ ((xs (ix v3)) &&& 63) = 29 ∧ ¬ ((xs (ix v3)) &&& 63) = 30 ∧ ¬ ((xs (ix v3)) &&& 63) = 31 ∧ ¬ ((xs (ix v3)) &&& 63) = 32 ∧ ¬ ((xs (ix v3)) &&& 63) = 33 ∧ ¬ ((xs (ix v3)) &&& 63) = 34 ∧ ¬ ((xs (ix v3)) &&& 63) = 35 ∧ ¬ ((xs (ix v3)) &&& 63) = 36 ∧ ¬ ((xs (ix v3)) &&& 63) = 37 ∧ ¬ ((xs (ix v3)) &&& 63) = 38 ∧ ¬ ((xs (ix v3)) &&& 63) = 39) → lp_law Ln xs n (v3 + 6) I L))))
theorem sw_40 {x : Int32} (h0 : ¬ x = 0) (h1 : ¬ x = 1) (h2 : ¬ x = 2) (h3 : ¬ x = 3) (h4 : ¬ x = 4) (h5 : ¬ x = 5) (h6 : ¬ x = 6) (h7 : ¬ x = 7) (h8 : ¬ x = 8) (h9 : ¬ x = 9) (h10 : ¬ x = 10) (h11 : ¬ x = 11) (h12 : ¬ x = 12) (h13 : ¬ x = 13) (h14 : ¬ x = 14) (h15 : ¬ x = 15) (h16 : ¬ x = 16) (h17 : ¬ x = 17) (h18 : ¬ x = 18) (h19 : ¬ x = 19) (h20 : ¬ x = 20) (h21 : ¬ x = 21) (h22 : ¬ x = 22) (h23 : ¬ x = 23) (h24 : ¬ x = 24) (h25 : ¬ x = 25) (h26 : ¬ x = 26) (h27 : ¬ x = 27) (h28 : ¬ x = 28) (h29 : ¬ x = 29) (h30 : ¬ x = 30) (h31 : ¬ x = 31) (h32 : ¬ x = 32) (h33 : ¬ x = 33) (h34 : ¬ x = 34) (h35 : ¬ x = 35) (h36 : ¬ x = 36) (h37 : ¬ x = 37) (h38 : ¬ x = 38) (h39 : ¬ x = 39) : ∀ i : Nat, i < 40 → ¬ x.toInt = (i : Int) := by
  intro i hi hx
  have hj : x = Int32.ofNat i := Int32.toInt_inj.mp (by rw [hx, show Int32.ofNat i = nI i from rfl, nI_toInt (by omega)])
  match i, hi with
  | 0, _ => exact h0 hj
  | 1, _ => exact h1 hj
  | 2, _ => exact h2 hj
  | 3, _ => exact h3 hj
  | 4, _ => exact h4 hj
  | 5, _ => exact h5 hj
  | 6, _ => exact h6 hj
  | 7, _ => exact h7 hj
  | 8, _ => exact h8 hj
  | 9, _ => exact h9 hj
  | 10, _ => exact h10 hj
  | 11, _ => exact h11 hj
  | 12, _ => exact h12 hj
  | 13, _ => exact h13 hj
  | 14, _ => exact h14 hj
  | 15, _ => exact h15 hj
  | 16, _ => exact h16 hj
  | 17, _ => exact h17 hj
  | 18, _ => exact h18 hj
  | 19, _ => exact h19 hj
  | 20, _ => exact h20 hj
  | 21, _ => exact h21 hj
  | 22, _ => exact h22 hj
  | 23, _ => exact h23 hj
  | 24, _ => exact h24 hj
  | 25, _ => exact h25 hj
  | 26, _ => exact h26 hj
  | 27, _ => exact h27 hj
  | 28, _ => exact h28 hj
  | 29, _ => exact h29 hj
  | 30, _ => exact h30 hj
  | 31, _ => exact h31 hj
  | 32, _ => exact h32 hj
  | 33, _ => exact h33 hj
  | 34, _ => exact h34 hj
  | 35, _ => exact h35 hj
  | 36, _ => exact h36 hj
  | 37, _ => exact h37 hj
  | 38, _ => exact h38 hj
  | 39, _ => exact h39 hj
  | k + 40, h => exact absurd h (by omega)
set_option maxRecDepth 20000 in
theorem lpt_law {E : Ev} {l : Launch} {Ln : Nat} {xs : Nat → Int32} : ∀ (N : Nat) (v3 : Int32) (I : MI) (L : ML) (R : MR), GRx R → GRm R → lp_law Ln xs N v3 I L → X E l room_1 yL_law code 4 ret (lawX E Ln xs) lwZ 18 [(0, .ref 1100), (1, .ref 0), (2, .ref 336), (3, .int v3)] [] 349 I L R 349 50368 := by
  intro N
  induction N with
  | zero => intro v3 I L R hGx hGm h; exact False.elim h
  | succ N ih =>
    intro v3 I L R hGx hGm h
    unfold lp_law at h
    refine x_iload_n dL_law_18 rfl ?_
    refine x_aload_n dL_law_19 rfl ?_
    refine x_slen dL_law_20 ?_
    refine x_bipush (v := 6) dL_law_21 kb_6 ?_
    refine x_isub dL_law_23 ?_
    refine x_icmp_gt dL_law_24 (tgt := 1494) rfl ⟨fun c => ?_, fun c => ?_⟩
    · refine x_iconst (v := 1) dL_law_1494 ki_1 ?_
      exact x_lawret dL_law_1495 (Nat.le_of_ble_eq_true rfl) (Nat.le_of_ble_eq_true rfl)
    · obtain ⟨b1, h⟩ := h.2 c
      refine x_aload_n dL_law_27 rfl ?_
      refine x_iload_n dL_law_28 rfl ?_
      refine x_sld dL_law_29 b1 ?_
      refine x_bipush (v := 63) dL_law_30 kb_63 ?_
      refine x_iand dL_law_32 ?_
      have hb : ∀ (I : MI) (L : ML) (R : MR), GRx R → GRm R → lp_law Ln xs N (v3 + 6) I L → X E l room_1 yL_law code 4 ret (lawX E Ln xs) lwZ 1488 [(0, .ref 1100), (1, .ref 0), (2, .ref 336), (3, .int v3)] [] 349 I L R 349 50368 := by
        intro I L R hGx hGm h
        refine x_iinc (v := v3 + 6) (ls' := [(3, .int (v3 + 6)), (0, .ref 1100), (1, .ref 0), (2, .ref 336)]) dL_law_1488 rfl (congrArg (_ + ·) (by decide)) (Nat.le_of_ble_eq_true rfl) rfl ?_
        refine x_ls (ls' := [(0, .ref 1100), (1, .ref 0), (2, .ref 336), (3, .int (v3 + 6))]) [1, 2, 3, 0] rfl ?_
        refine x_goto dL_law_1491 (tgt := 18) rfl ?_
        exact ih (v3 + 6) I L R hGx hGm h
      rcases Classical.em (((xs (ix v3)) &&& 63) = 0) with c0 | c0
      · have h := h.1 c0
        refine x_tabIn (tgt := 208) dL_law_33 (by rw [c0]; decide) (by rw [c0]; decide) (off := 175) (by rw [c0]; rfl) rfl ?_
        exact cst_0 hGx hGm hb h
      rcases Classical.em (((xs (ix v3)) &&& 63) = 1) with c1 | c1
      · have h := h.2.1 c1
        refine x_tabIn (tgt := 271) dL_law_33 (by rw [c1]; decide) (by rw [c1]; decide) (off := 238) (by rw [c1]; rfl) rfl ?_
        exact cst_1 hGx hGm hb h
      rcases Classical.em (((xs (ix v3)) &&& 63) = 2) with c2 | c2
      · have h := h.2.2.1 c2
        refine x_tabIn (tgt := 294) dL_law_33 (by rw [c2]; decide) (by rw [c2]; decide) (off := 261) (by rw [c2]; rfl) rfl ?_
        exact cst_2 hGx hGm hb h
      rcases Classical.em (((xs (ix v3)) &&& 63) = 3) with c3 | c3
      · have h := h.2.2.2.1 c3
        refine x_tabIn (tgt := 307) dL_law_33 (by rw [c3]; decide) (by rw [c3]; decide) (off := 274) (by rw [c3]; rfl) rfl ?_
        exact cst_3 hGx hGm hb h
      rcases Classical.em (((xs (ix v3)) &&& 63) = 4) with c4 | c4
      · have h := h.2.2.2.2.1 c4
        refine x_tabIn (tgt := 340) dL_law_33 (by rw [c4]; decide) (by rw [c4]; decide) (off := 307) (by rw [c4]; rfl) rfl ?_
        exact cst_4 hGx hGm hb h
      rcases Classical.em (((xs (ix v3)) &&& 63) = 5) with c5 | c5
      · have h := h.2.2.2.2.2.1 c5
        refine x_tabIn (tgt := 363) dL_law_33 (by rw [c5]; decide) (by rw [c5]; decide) (off := 330) (by rw [c5]; rfl) rfl ?_
        exact cst_5 hGx hGm hb h
      rcases Classical.em (((xs (ix v3)) &&& 63) = 6) with c6 | c6
      · have h := h.2.2.2.2.2.2.1 c6
        refine x_tabIn (tgt := 396) dL_law_33 (by rw [c6]; decide) (by rw [c6]; decide) (off := 363) (by rw [c6]; rfl) rfl ?_
        exact cst_6 hGx hGm hb h
      rcases Classical.em (((xs (ix v3)) &&& 63) = 7) with c7 | c7
      · have h := h.2.2.2.2.2.2.2.1 c7
        refine x_tabIn (tgt := 429) dL_law_33 (by rw [c7]; decide) (by rw [c7]; decide) (off := 396) (by rw [c7]; rfl) rfl ?_
        exact cst_7 hGx hGm hb h
      rcases Classical.em (((xs (ix v3)) &&& 63) = 8) with c8 | c8
      · have h := h.2.2.2.2.2.2.2.2.1 c8
        refine x_tabIn (tgt := 462) dL_law_33 (by rw [c8]; decide) (by rw [c8]; decide) (off := 429) (by rw [c8]; rfl) rfl ?_
        exact cst_8 hGx hGm hb h
      rcases Classical.em (((xs (ix v3)) &&& 63) = 9) with c9 | c9
      · have h := h.2.2.2.2.2.2.2.2.2.1 c9
        refine x_tabIn (tgt := 485) dL_law_33 (by rw [c9]; decide) (by rw [c9]; decide) (off := 452) (by rw [c9]; rfl) rfl ?_
        exact cst_9 hGx hGm hb h
      rcases Classical.em (((xs (ix v3)) &&& 63) = 10) with c10 | c10
      · have h := h.2.2.2.2.2.2.2.2.2.2.1 c10
        refine x_tabIn (tgt := 528) dL_law_33 (by rw [c10]; decide) (by rw [c10]; decide) (off := 495) (by rw [c10]; rfl) rfl ?_
        exact cst_10 hGx hGm hb h
      rcases Classical.em (((xs (ix v3)) &&& 63) = 11) with c11 | c11
      · have h := h.2.2.2.2.2.2.2.2.2.2.2.1 c11
        refine x_tabIn (tgt := 571) dL_law_33 (by rw [c11]; decide) (by rw [c11]; decide) (off := 538) (by rw [c11]; rfl) rfl ?_
        exact cst_11 hGx hGm hb h
      rcases Classical.em (((xs (ix v3)) &&& 63) = 12) with c12 | c12
      · have h := h.2.2.2.2.2.2.2.2.2.2.2.2.1 c12
        refine x_tabIn (tgt := 594) dL_law_33 (by rw [c12]; decide) (by rw [c12]; decide) (off := 561) (by rw [c12]; rfl) rfl ?_
        exact cst_12 hGx hGm hb h
      rcases Classical.em (((xs (ix v3)) &&& 63) = 13) with c13 | c13
      · have h := h.2.2.2.2.2.2.2.2.2.2.2.2.2.1 c13
        refine x_tabIn (tgt := 617) dL_law_33 (by rw [c13]; decide) (by rw [c13]; decide) (off := 584) (by rw [c13]; rfl) rfl ?_
        exact cst_13 hGx hGm hb h
      rcases Classical.em (((xs (ix v3)) &&& 63) = 14) with c14 | c14
      · have h := h.2.2.2.2.2.2.2.2.2.2.2.2.2.2.1 c14
        refine x_tabIn (tgt := 630) dL_law_33 (by rw [c14]; decide) (by rw [c14]; decide) (off := 597) (by rw [c14]; rfl) rfl ?_
        exact cst_14 hGx hGm hb h
      rcases Classical.em (((xs (ix v3)) &&& 63) = 15) with c15 | c15
      · have h := h.2.2.2.2.2.2.2.2.2.2.2.2.2.2.2.1 c15
        refine x_tabIn (tgt := 643) dL_law_33 (by rw [c15]; decide) (by rw [c15]; decide) (off := 610) (by rw [c15]; rfl) rfl ?_
        exact cst_15 hGx hGm hb h
      rcases Classical.em (((xs (ix v3)) &&& 63) = 16) with c16 | c16
      · have h := h.2.2.2.2.2.2.2.2.2.2.2.2.2.2.2.2.1 c16
        refine x_tabIn (tgt := 656) dL_law_33 (by rw [c16]; decide) (by rw [c16]; decide) (off := 623) (by rw [c16]; rfl) rfl ?_
        exact cst_16 hGx hGm hb h
      rcases Classical.em (((xs (ix v3)) &&& 63) = 17) with c17 | c17
      · have h := h.2.2.2.2.2.2.2.2.2.2.2.2.2.2.2.2.2.1 c17
        refine x_tabIn (tgt := 689) dL_law_33 (by rw [c17]; decide) (by rw [c17]; decide) (off := 656) (by rw [c17]; rfl) rfl ?_
        exact cst_17 hGx hGm hb h
      rcases Classical.em (((xs (ix v3)) &&& 63) = 18) with c18 | c18
      · have h := h.2.2.2.2.2.2.2.2.2.2.2.2.2.2.2.2.2.2.1 c18
        refine x_tabIn (tgt := 722) dL_law_33 (by rw [c18]; decide) (by rw [c18]; decide) (off := 689) (by rw [c18]; rfl) rfl ?_
        exact cst_18 hGx hGm hb h
      rcases Classical.em (((xs (ix v3)) &&& 63) = 19) with c19 | c19
      · have h := h.2.2.2.2.2.2.2.2.2.2.2.2.2.2.2.2.2.2.2.1 c19
        refine x_tabIn (tgt := 765) dL_law_33 (by rw [c19]; decide) (by rw [c19]; decide) (off := 732) (by rw [c19]; rfl) rfl ?_
        exact cst_19 hGx hGm hb h
      rcases Classical.em (((xs (ix v3)) &&& 63) = 20) with c20 | c20
      · have h := h.2.2.2.2.2.2.2.2.2.2.2.2.2.2.2.2.2.2.2.2.1 c20
        refine x_tabIn (tgt := 798) dL_law_33 (by rw [c20]; decide) (by rw [c20]; decide) (off := 765) (by rw [c20]; rfl) rfl ?_
        exact cst_20 hGx hGm hb h
      rcases Classical.em (((xs (ix v3)) &&& 63) = 21) with c21 | c21
      · have h := h.2.2.2.2.2.2.2.2.2.2.2.2.2.2.2.2.2.2.2.2.2.1 c21
        refine x_tabIn (tgt := 841) dL_law_33 (by rw [c21]; decide) (by rw [c21]; decide) (off := 808) (by rw [c21]; rfl) rfl ?_
        exact cst_21 hGx hGm hb h
      rcases Classical.em (((xs (ix v3)) &&& 63) = 22) with c22 | c22
      · have h := h.2.2.2.2.2.2.2.2.2.2.2.2.2.2.2.2.2.2.2.2.2.2.1 c22
        refine x_tabIn (tgt := 874) dL_law_33 (by rw [c22]; decide) (by rw [c22]; decide) (off := 841) (by rw [c22]; rfl) rfl ?_
        exact cst_22 hGx hGm hb h
      rcases Classical.em (((xs (ix v3)) &&& 63) = 23) with c23 | c23
      · have h := h.2.2.2.2.2.2.2.2.2.2.2.2.2.2.2.2.2.2.2.2.2.2.2.1 c23
        refine x_tabIn (tgt := 897) dL_law_33 (by rw [c23]; decide) (by rw [c23]; decide) (off := 864) (by rw [c23]; rfl) rfl ?_
        exact cst_23 hGx hGm hb h
      rcases Classical.em (((xs (ix v3)) &&& 63) = 24) with c24 | c24
      · have h := h.2.2.2.2.2.2.2.2.2.2.2.2.2.2.2.2.2.2.2.2.2.2.2.2.1 c24
        refine x_tabIn (tgt := 920) dL_law_33 (by rw [c24]; decide) (by rw [c24]; decide) (off := 887) (by rw [c24]; rfl) rfl ?_
        exact cst_24 hGx hGm hb h
      rcases Classical.em (((xs (ix v3)) &&& 63) = 25) with c25 | c25
      · have h := h.2.2.2.2.2.2.2.2.2.2.2.2.2.2.2.2.2.2.2.2.2.2.2.2.2.1 c25
        refine x_tabIn (tgt := 964) dL_law_33 (by rw [c25]; decide) (by rw [c25]; decide) (off := 931) (by rw [c25]; rfl) rfl ?_
        exact cst_25 hGx hGm hb h
      rcases Classical.em (((xs (ix v3)) &&& 63) = 26) with c26 | c26
      · have h := h.2.2.2.2.2.2.2.2.2.2.2.2.2.2.2.2.2.2.2.2.2.2.2.2.2.2.1 c26
        refine x_tabIn (tgt := 1008) dL_law_33 (by rw [c26]; decide) (by rw [c26]; decide) (off := 975) (by rw [c26]; rfl) rfl ?_
        exact cst_26 hGx hGm hb h
      rcases Classical.em (((xs (ix v3)) &&& 63) = 27) with c27 | c27
      · have h := h.2.2.2.2.2.2.2.2.2.2.2.2.2.2.2.2.2.2.2.2.2.2.2.2.2.2.2.1 c27
        refine x_tabIn (tgt := 1022) dL_law_33 (by rw [c27]; decide) (by rw [c27]; decide) (off := 989) (by rw [c27]; rfl) rfl ?_
        exact cst_27 hGx hGm hb h
      rcases Classical.em (((xs (ix v3)) &&& 63) = 28) with c28 | c28
      · have h := h.2.2.2.2.2.2.2.2.2.2.2.2.2.2.2.2.2.2.2.2.2.2.2.2.2.2.2.2.1 c28
        refine x_tabIn (tgt := 1065) dL_law_33 (by rw [c28]; decide) (by rw [c28]; decide) (off := 1032) (by rw [c28]; rfl) rfl ?_
        exact cst_28 hGx hGm hb h
      rcases Classical.em (((xs (ix v3)) &&& 63) = 29) with c29 | c29
      · have h := h.2.2.2.2.2.2.2.2.2.2.2.2.2.2.2.2.2.2.2.2.2.2.2.2.2.2.2.2.2.1 c29
        refine x_tabIn (tgt := 1098) dL_law_33 (by rw [c29]; decide) (by rw [c29]; decide) (off := 1065) (by rw [c29]; rfl) rfl ?_
        exact cst_29 hGx hGm hb h
      rcases Classical.em (((xs (ix v3)) &&& 63) = 30) with c30 | c30
      · have h := h.2.2.2.2.2.2.2.2.2.2.2.2.2.2.2.2.2.2.2.2.2.2.2.2.2.2.2.2.2.2.1 c30
        refine x_tabIn (tgt := 1131) dL_law_33 (by rw [c30]; decide) (by rw [c30]; decide) (off := 1098) (by rw [c30]; rfl) rfl ?_
        exact cst_30 hGx hGm hb h
      rcases Classical.em (((xs (ix v3)) &&& 63) = 31) with c31 | c31
      · have h := h.2.2.2.2.2.2.2.2.2.2.2.2.2.2.2.2.2.2.2.2.2.2.2.2.2.2.2.2.2.2.2.1 c31
        refine x_tabIn (tgt := 1181) dL_law_33 (by rw [c31]; decide) (by rw [c31]; decide) (off := 1148) (by rw [c31]; rfl) rfl ?_
        exact cst_31 hGx hGm hb h
      rcases Classical.em (((xs (ix v3)) &&& 63) = 32) with c32 | c32
      · have h := h.2.2.2.2.2.2.2.2.2.2.2.2.2.2.2.2.2.2.2.2.2.2.2.2.2.2.2.2.2.2.2.2.1 c32
        refine x_tabIn (tgt := 1224) dL_law_33 (by rw [c32]; decide) (by rw [c32]; decide) (off := 1191) (by rw [c32]; rfl) rfl ?_
        exact cst_32 hGx hGm hb h
      rcases Classical.em (((xs (ix v3)) &&& 63) = 33) with c33 | c33
      · have h := h.2.2.2.2.2.2.2.2.2.2.2.2.2.2.2.2.2.2.2.2.2.2.2.2.2.2.2.2.2.2.2.2.2.1 c33
        refine x_tabIn (tgt := 1247) dL_law_33 (by rw [c33]; decide) (by rw [c33]; decide) (off := 1214) (by rw [c33]; rfl) rfl ?_
        exact cst_33 hGx hGm hb h
      rcases Classical.em (((xs (ix v3)) &&& 63) = 34) with c34 | c34
      · have h := h.2.2.2.2.2.2.2.2.2.2.2.2.2.2.2.2.2.2.2.2.2.2.2.2.2.2.2.2.2.2.2.2.2.2.1 c34
        refine x_tabIn (tgt := 1290) dL_law_33 (by rw [c34]; decide) (by rw [c34]; decide) (off := 1257) (by rw [c34]; rfl) rfl ?_
        exact cst_34 hGx hGm hb h
      rcases Classical.em (((xs (ix v3)) &&& 63) = 35) with c35 | c35
      · have h := h.2.2.2.2.2.2.2.2.2.2.2.2.2.2.2.2.2.2.2.2.2.2.2.2.2.2.2.2.2.2.2.2.2.2.2.1 c35
        refine x_tabIn (tgt := 1343) dL_law_33 (by rw [c35]; decide) (by rw [c35]; decide) (off := 1310) (by rw [c35]; rfl) rfl ?_
        exact cst_35 hGx hGm hb h
      rcases Classical.em (((xs (ix v3)) &&& 63) = 36) with c36 | c36
      · have h := h.2.2.2.2.2.2.2.2.2.2.2.2.2.2.2.2.2.2.2.2.2.2.2.2.2.2.2.2.2.2.2.2.2.2.2.2.1 c36
        refine x_tabIn (tgt := 1396) dL_law_33 (by rw [c36]; decide) (by rw [c36]; decide) (off := 1363) (by rw [c36]; rfl) rfl ?_
        exact cst_36 hGx hGm hb h
      rcases Classical.em (((xs (ix v3)) &&& 63) = 37) with c37 | c37
      · have h := h.2.2.2.2.2.2.2.2.2.2.2.2.2.2.2.2.2.2.2.2.2.2.2.2.2.2.2.2.2.2.2.2.2.2.2.2.2.1 c37
        refine x_tabIn (tgt := 1429) dL_law_33 (by rw [c37]; decide) (by rw [c37]; decide) (off := 1396) (by rw [c37]; rfl) rfl ?_
        exact cst_37 hGx hGm hb h
      rcases Classical.em (((xs (ix v3)) &&& 63) = 38) with c38 | c38
      · have h := h.2.2.2.2.2.2.2.2.2.2.2.2.2.2.2.2.2.2.2.2.2.2.2.2.2.2.2.2.2.2.2.2.2.2.2.2.2.2.1 c38
        refine x_tabIn (tgt := 1442) dL_law_33 (by rw [c38]; decide) (by rw [c38]; decide) (off := 1409) (by rw [c38]; rfl) rfl ?_
        exact cst_38 hGx hGm hb h
      rcases Classical.em (((xs (ix v3)) &&& 63) = 39) with c39 | c39
      · have h := h.2.2.2.2.2.2.2.2.2.2.2.2.2.2.2.2.2.2.2.2.2.2.2.2.2.2.2.2.2.2.2.2.2.2.2.2.2.2.2.1 c39
        refine x_tabIn (tgt := 1465) dL_law_33 (by rw [c39]; decide) (by rw [c39]; decide) (off := 1432) (by rw [c39]; rfl) rfl ?_
        exact cst_39 hGx hGm hb h
      have h := h.2.2.2.2.2.2.2.2.2.2.2.2.2.2.2.2.2.2.2.2.2.2.2.2.2.2.2.2.2.2.2.2.2.2.2.2.2.2.2.2 ⟨c0, c1, c2, c3, c4, c5, c6, c7, c8, c9, c10, c11, c12, c13, c14, c15, c16, c17, c18, c19, c20, c21, c22, c23, c24, c25, c26, c27, c28, c29, c30, c31, c32, c33, c34, c35, c36, c37, c38, c39⟩
      refine x_tabOut (tgt := 1488) dL_law_33 (sw_out 39 rfl (sw_40 c0 c1 c2 c3 c4 c5 c6 c7 c8 c9 c10 c11 c12 c13 c14 c15 c16 c17 c18 c19 c20 c21 c22 c23 c24 c25 c26 c27 c28 c29 c30 c31 c32 c33 c34 c35 c36 c37 c38 c39)) rfl ?_
      exact hb I L R hGx hGm h
