-- the words' texts: String constants, read by the JDK's own code
def isTxt (w : Nat) : Prop := 1010 ≤ w ∧ w < 1017
def tLen (w : Nat) : Nat := wLen.getD (w - 1010) 0
def tAt (w j : Nat) : Int32 := (wByt.getD (w - 1010) []).getD j 0
theorem isTxt_i {w : Nat} (h : isTxt w) : ∃ i, i < 7 ∧ w = 1010 + i := ⟨w - 1010, by have := h.1; have := h.2; omega, by have := h.1; omega⟩
section STR
variable {E : Ev} {l : Launch} {rm rm' : Room} {y y' : MethodName} {cc cc' : ByteArray} {nL nL' : Nat} {ret ret' : Option FieldType} {Xt : Array Value → State → Prop} {Zf : List Frame → Array Value → State → State → Prop} {pc : Nat} {ls : List (Nat × Value)} {sk st : List Value} {n : Nat} {I : MI} {L : ML} {R : MR} {cl sl idx k na : Nat} {Q' : Option Value → Nat → MI → ML → MR → Prop}
theorem x_lds {i : Nat} (hd : decode cc pc = .ok (.ldc idx, 2)) (hi : i < 7) (hx : wIdx.getD i 0 = idx) (hy : y.cls = "SparesHouse$Words") (h : X E l rm y cc nL ret Xt Zf (pc + 2) ls (.ref (1010 + i) :: st) n I L R cl sl) : X E l rm y cc nL ret Xt Zf pc ls st n I L R cl sl := by
  intro p e s m args below meth c hC H locs la hD hl
  subst hx
  exact va_ldcS hC.1 hC.2.1 (by rw [← hy]; exact hC.own) (hC.so.2.2.1 i hi) hd (h p e s m args below meth c hC H locs la hD hl)
theorem x_sval (hd : decode cc pc = .ok (.getfield idx, 3)) (hw : isTxt k) (hf : Cond.fieldLink y.cls idx "java/lang/String" "value" "[B" ∈ gt) (h : X E l rm y cc nL ret Xt Zf (pc + 3) ls (.ref (k + 10) :: st) n I L R cl sl) : X E l rm y cc nL ret Xt Zf pc ls (.ref k :: st) n I L R cl sl := by
  intro p e s m args below meth c hC H locs la hD hl
  obtain ⟨i, hi, rfl⟩ := isTxt_i hw
  have := h p e s m args below meth c hC H locs la hD hl
  rw [show 1010 + i + 10 = 1020 + i by omega] at this
  exact vk_getf hC.1 hC.2.1 (hC.so.2.1.1 i hi).2.2.1 hD.S hC.own (hC.wd hf) (fun _ h => h) hd this
theorem x_scod (hd : decode cc pc = .ok (.getfield idx, 3)) (hw : isTxt k) (hf : Cond.fieldLink y.cls idx "java/lang/String" "coder" "B" ∈ gt) (h : X E l rm y cc nL ret Xt Zf (pc + 3) ls (.int 0 :: st) n I L R cl sl) : X E l rm y cc nL ret Xt Zf pc ls (.ref k :: st) n I L R cl sl := by
  intro p e s m args below meth c hC H locs la hD hl
  obtain ⟨i, hi, rfl⟩ := isTxt_i hw
  exact vk_getf hC.1 hC.2.1 (hC.so.2.1.1 i hi).2.1 hD.S hC.own (hC.wd hf) (fun _ h => h) hd (h p e s m args below meth c hC H locs la hD hl)
theorem x_tblen (hd : decode cc pc = .ok (.arraylength, 1)) (hw : isTxt k) (h : X E l rm y cc nL ret Xt Zf (pc + 1) ls (.int (nI (tLen k)) :: st) n I L R cl sl) : X E l rm y cc nL ret Xt Zf pc ls (.ref (k + 10) :: st) n I L R cl sl := by
  intro p e s m args below meth c hC H locs la hD hl
  obtain ⟨i, hi, rfl⟩ := isTxt_i hw
  have := h p e s m args below meth c hC H locs la hD hl
  have ht : tLen (1010 + i) = wLen.getD i 0 := by unfold tLen; rw [show 1010 + i - 1010 = i by omega]
  rw [ht] at this
  rw [show 1010 + i + 10 = 1020 + i by omega]
  exact va_tlen hC.1 hC.2.1 (hC.so.2.1.1 i hi).2.2.2 hD.S rfl hd this
theorem x_tbald {j : Int32} (hd : decode cc pc = .ok (.baload, 1)) (hw : isTxt k) (hj : vp_in j (tLen k)) (h : X E l rm y cc nL ret Xt Zf (pc + 1) ls (.int (tAt k (ix j)) :: st) n I L R cl sl) : X E l rm y cc nL ret Xt Zf pc ls (.int j :: .ref (k + 10) :: st) n I L R cl sl := by
  intro p e s m args below meth c hC H locs la hD hl
  obtain ⟨i, hi, rfl⟩ := isTxt_i hw
  have := h p e s m args below meth c hC H locs la hD hl
  have ht : tLen (1010 + i) = wLen.getD i 0 := by unfold tLen; rw [show 1010 + i - 1010 = i by omega]
  have ha : tAt (1010 + i) (ix j) = (wByt.getD i []).getD (ix j) 0 := by unfold tAt; rw [show 1010 + i - 1010 = i by omega]
  rw [ht] at hj
  rw [ha] at this
  rw [show 1010 + i + 10 = 1020 + i by omega]
  exact va_tb hC.1 hC.2.1 (hC.so.2.1.1 i hi).2.2.2 hD.S hj rfl hd this
theorem x_scmp (hd : decode cc pc = .ok (.getstatic idx, 3)) (hf : Cond.fieldLink y.cls idx "java/lang/String" "COMPACT_STRINGS" "Z" ∈ gt) (h : X E l rm y cc nL ret Xt Zf (pc + 3) ls (.int 1 :: st) n I L R cl sl) : X E l rm y cc nL ret Xt Zf pc ls st n I L R cl sl := by
  intro p e s m args below meth c hC H locs la hD hl
  exact va_gets hC.1 hC.2.1 hC.so.2.2.2.1 hD.S hC.own (hC.wd hf) (fun _ h => h) hd (h p e s m args below meth c hC H locs la hD hl)
theorem x_sfmt (hd : decode cc pc = .ok (.getstatic idx, 3)) (hf : Cond.fieldLink y.cls idx "jdk/internal/util/Preconditions" "SIOOBE_FORMATTER" "Ljava/util/function/BiFunction;" ∈ gt) (h : ∀ v : Value, v = .null ∨ v = .ref 1040 → X E l rm y cc nL ret Xt Zf (pc + 3) ls (v :: st) n I L R cl sl) : X E l rm y cc nL ret Xt Zf pc ls st n I L R cl sl := by
  intro p e s m args below meth c hC H locs la hD hl
  rcases hC.so.2.2.2.2.1 with hz | hz
  · exact va_gets hC.1 hC.2.1 hz hD.S hC.own (hC.wd hf) (fun _ h => h) hd (h .null (Or.inl rfl) p e s m args below meth c hC H locs la hD hl)
  · exact va_gets hC.1 hC.2.1 hz hD.S hC.own (hC.wd hf) (fun _ h => h) hd (h (.ref 1040) (Or.inr rfl) p e s m args below meth c hC H locs la hD hl)
/-- a call on one of the texts, whose answer is an int and that changes nothing -/
theorem x_cT {Q : Int32 → Prop} (av : List Value) (hM : MX E l rm' y' cc' nL' ret' (.ref k :: av) n I L R (Qi n R (P00 I L Q))) (hd : decode cc pc = .ok (.invokevirtual idx, 3)) (hlk : Cond.methodLink y.cls idx y' ∈ gt) (hc : Cal y' cc' nL' ret' na) (hi : Cond.instanceMethod y' ∈ gt ∧ Cond.selects y'.cls y' y' ∈ gt) (hy : y'.cls = "java/lang/String") (hw : isTxt k) (hn : av.length = na) (hst : sk = av.reverse ++ .ref k :: st) (hww : (st.map fun v => v.category).sum ≤ 8) (hR : Rf rm' nL' rm cl sl)
    (h : ∀ x, Q x → X E l rm y cc nL ret Xt Zf (pc + 3) ls (.int x :: st) n I L R cl sl) : X E l rm y cc nL ret Xt Zf pc ls sk n I L R cl sl := by
  intro p e s m args below meth c hC H locs la hD hl
  subst hst
  obtain ⟨i, hii, rfl⟩ := isTxt_i hw
  refine x_back (st := st) hC hD hl (va_runV (As := av.map (tv E)) (b := ad E (1010 + i)) ⟨hC.1, hC.2.1, hC.2.2.2.1, hC.own, hC.ts⟩ hM ⟨x_cb hC.ts hlk hc hR.1.1, hC.wd hi.1, hC.wd hi.2⟩ ⟨BX_blind, ?_, ?_⟩ rfl (by rw [List.length_map]; exact hn) hl.1 (by simp [tv]) (lv_room (by rw [tv_cats]; exact hww)) hd hR.1.2) (fun v n1 I1 L1 R1 hq => ?_)
  · rw [hy]
    exact vk_recv (adK := fun i => ad E (1010 + i)) hC.so.2.1 hii hD.S
  · exact BX_pre hC hD _
  · obtain ⟨x, rfl, rfl, rfl, rfl, rfl, hq⟩ := hq
    rw [hR.2.1, hR.2.2]
    exact h x hq
theorem x_nreturn {ty : FieldType} {v : Int32} {Q : Option Value → Nat → MI → ML → MR → Prop} (hd : decode cc pc = .ok (.ireturn, 1)) (hv : narrow ty (.int v) = .int v) (h : Q (some (.int v)) n I L R) : X E l rm y cc nL (some ty) noX (ZM E rm Q) pc ls [.int v] n I L R rm.cells rm.slots := by
  intro p e s m args below meth c hC H locs la hD hl
  exact W.zret (v := v) hC.1 hC.2.1 hC.2.2.1 hv (fun t ht hW => ⟨⟨some (.int v), n, I, L, R, rfl, h, by rw [ht]; exact hD.1, hD.2.1, by rw [ht]; exact hD.2.2.2.1, hD.2.2.2.2⟩, hD.S.F ht⟩) hD.S.2.2 hd hC.lk
end STR
section STRM
variable {E : Ev} {l : Launch} {n : Nat} {I : MI} {L : ML} {R : MR} {w : Nat}
abbrev rmJ0 : Room := { frames := 0, cells := 0, slots := 0, locals := 0 }
abbrev rmJ1 : Room := { frames := 1, cells := 0, slots := 0, locals := 22 }
abbrev rmJ2 : Room := { frames := 2, cells := 0, slots := 0, locals := 43 }
abbrev rmJ3 : Room := { frames := 3, cells := 0, slots := 0, locals := 64 }
theorem mt_coder (hw : isTxt w) : MX E l rmJ0 yJ0_coder_7d493 cJ0_coder_7d493 1 (some .byte) [.ref w] n I L R (Qi n R (P00 I L (fun x => x = 0))) := by
  refine MX_of (ls := [(0, .ref w)]) (by decide) (Nat.le_of_ble_eq_true rfl) rfl ?_
  refine x_scmp dJ0_coder_7d493_0 fj_RJ0_38 ?_
  refine x_if_eq dJ0_coder_7d493_3 (tgt := 13) rfl ⟨fun c => absurd c (by decide), fun c => ?_⟩
  refine x_aload_n dJ0_coder_7d493_6 rfl ?_
  refine x_scod dJ0_coder_7d493_7 hw fj_RJ0_15 ?_
  refine x_goto dJ0_coder_7d493_10 (tgt := 14) rfl ?_
  exact x_nreturn dJ0_coder_7d493_14 rfl ⟨_, rfl, rfl, rfl, rfl, rfl, rfl⟩
theorem mt_isLatin1 (hw : isTxt w) : MX E l rmJ0 yJ0_isLatin1_aae02 cJ0_isLatin1_aae02 1 (some .boolean) [.ref w] n I L R (Qi n R (P00 I L (fun x => x = 1))) := by
  refine MX_of (ls := [(0, .ref w)]) (by decide) (Nat.le_of_ble_eq_true rfl) rfl ?_
  refine x_scmp dJ0_isLatin1_aae02_0 fj_RJ0_38 ?_
  refine x_if_eq dJ0_isLatin1_aae02_3 (tgt := 17) rfl ⟨fun c => absurd c (by decide), fun c => ?_⟩
  refine x_aload_n dJ0_isLatin1_aae02_6 rfl ?_
  refine x_scod dJ0_isLatin1_aae02_7 hw fj_RJ0_15 ?_
  refine x_if_ne dJ0_isLatin1_aae02_10 (tgt := 17) rfl ⟨fun c => absurd rfl c, fun c => ?_⟩
  refine x_iconst (v := 1) dJ0_isLatin1_aae02_13 ki_1 ?_
  refine x_goto dJ0_isLatin1_aae02_14 (tgt := 18) rfl ?_
  exact x_nreturn dJ0_isLatin1_aae02_18 rfl ⟨_, rfl, rfl, rfl, rfl, rfl, rfl⟩
theorem tLen_shr {w : Nat} (h : isTxt w) : nI (tLen w) >>> ((0 : Int32) &&& 31) = nI (tLen w) := by
  have h1 : ∀ i, i < 7 → nI (tLen (1010 + i)) >>> ((0 : Int32) &&& 31) = nI (tLen (1010 + i)) := by decide +kernel
  obtain ⟨i, hi, rfl⟩ := isTxt_i h
  exact h1 i hi
theorem mt_len (hw : isTxt w) : MX E l rmJ1 yJ0_length_8abf5 cJ0_length_8abf5 1 (some .int) [.ref w] n I L R (Qi n R (P00 I L (fun x => x = nI (tLen w)))) := by
  refine MX_of (ls := [(0, .ref w)]) (by decide) (Nat.le_of_ble_eq_true rfl) rfl ?_
  refine x_aload_n dJ0_length_8abf5_0 rfl ?_
  refine x_sval dJ0_length_8abf5_1 hw fj_RJ0_9 ?_
  refine x_tblen dJ0_length_8abf5_4 hw ?_
  refine x_aload_n dJ0_length_8abf5_5 rfl ?_
  refine x_cT [] (mt_coder hw) dJ0_length_8abf5_6 lj_RJ0_335 cal_J0_coder_7d493 ins_J0_coder_7d493 rfl hw rfl rfl (Nat.le_of_ble_eq_true rfl) (Rf_of rfl) (fun x hx => ?_)
  refine x_ishr dJ0_length_8abf5_9 ?_
  exact x_ireturn dJ0_length_8abf5_10 ⟨_, rfl, rfl, rfl, rfl, rfl, by rw [hx]; exact tLen_shr hw⟩
theorem mt_chkP {i m : Int32} {v : Value} (hv : v = .null ∨ v = .ref 1040) (h0 : ¬ i < 0) (h1 : i < m) : MX E l rmJ0 yJ3_checkIndex_8e157 cJ3_checkIndex_8e157 3 (some .int) [.int i, .int m, v] n I L R (Qi n R (P00 I L (fun _ => True))) := by
  have hg : (lg_sl [.int i, .int m, v]).length ≤ 3 := by rcases hv with rfl | rfl <;> exact Nat.le_of_ble_eq_true rfl
  refine MX_of (ls := [(0, .int i), (1, .int m), (2, v)]) (by decide) hg rfl ?_
  refine x_iload_n dJ3_checkIndex_8e157_0 rfl ?_
  refine x_if_lt dJ3_checkIndex_8e157_1 (tgt := 9) rfl ⟨fun c => absurd c h0, fun c => ?_⟩
  refine x_iload_n dJ3_checkIndex_8e157_4 rfl ?_
  refine x_iload_n dJ3_checkIndex_8e157_5 rfl ?_
  refine x_icmp_lt dJ3_checkIndex_8e157_6 (tgt := 16) rfl ⟨fun c => ?_, fun c => absurd h1 c⟩
  refine x_iload_n dJ3_checkIndex_8e157_16 rfl ?_
  exact x_ireturn dJ3_checkIndex_8e157_17 ⟨_, rfl, rfl, rfl, rfl, rfl, trivial⟩
/-- a static call that answers an int and changes nothing, by its words -/
theorem x_cJ {y y' : MethodName} {rm rm' : Room} {cc cc' : ByteArray} {nL nL' na idx pc : Nat} {ret ret' : Option FieldType} {Xt : Array Value → State → Prop} {Zf : List Frame → Array Value → State → State → Prop} {ls : List (Nat × Value)} {sk st : List Value} {cl sl : Nat} {Q : Option Value → Nat → MI → ML → MR → Prop} (av : List Value) (hM : MX E l rm' y' cc' nL' ret' av n I L R Q) (hd : decode cc pc = .ok (.invokestatic idx, 3)) (hlk : Cond.methodLink y.cls idx y' ∈ gt) (hc : Cal y' cc' nL' ret' na) (hi : Cond.static y' ∈ gt) (hn : av.length = na) (hst : sk = av.reverse ++ st) (hw : (st.map fun v => v.category).sum ≤ 8) (hR : Rf rm' nL' rm cl sl)
    (h : ∀ v, Q v n I L R → X E l rm y cc nL ret Xt Zf (pc + 3) ls (v.toList ++ st) n I L R cl sl) (hQ : ∀ v n' I' L' R', Q v n' I' L' R' → n' = n ∧ I' = I ∧ L' = L ∧ R' = R) : X E l rm y cc nL ret Xt Zf pc ls sk n I L R cl sl := by
  refine x_callS av hM hd hlk hc hi hn hst hw hR.1 (fun v n1 I1 L1 R1 hq => ?_)
  obtain ⟨rfl, rfl, rfl, rfl⟩ := hQ v n1 I1 L1 R1 hq
  rw [hR.2.1, hR.2.2]
  exact h v hq
theorem mt_chk {i m : Int32} (h0 : ¬ i < 0) (h1 : i < m) : MX E l rmJ1 yJ0_checkIndex_df160 cJ0_checkIndex_df160 2 none [.int i, .int m] n I L R (Qv n R (fun I' L' => I' = I ∧ L' = L)) := by
  refine MX_of (ls := [(0, .int i), (1, .int m)]) (by decide) (Nat.le_of_ble_eq_true rfl) rfl ?_
  refine x_iload_n dJ0_checkIndex_df160_0 rfl ?_
  refine x_iload_n dJ0_checkIndex_df160_1 rfl ?_
  refine x_sfmt dJ0_checkIndex_df160_2 fj_RJ0_1053 (fun v hv => ?_)
  refine x_cJ [.int i, .int m, v] (mt_chkP hv h0 h1) dJ0_checkIndex_df160_5 lj_RJ0_1059 cal_J3_checkIndex_8e157 stt_J3_checkIndex_8e157 rfl rfl (Nat.le_of_ble_eq_true rfl) (Rf_of rfl) (fun r hr => ?_) (fun v n' I' L' R' hq => by obtain ⟨x, _, a, b, c, d, _⟩ := hq; exact ⟨a, c, d, b⟩)
  obtain ⟨x, rfl, -, -, -, -, -⟩ := hr
  refine x_pop dJ0_checkIndex_df160_8 rfl ?_
  exact x_return dJ0_checkIndex_df160_9 ⟨rfl, rfl, rfl, rfl, rfl⟩
theorem tAt_255 {w : Nat} (h : isTxt w) {j : Nat} (hj : j < tLen w) : ((tAt w j &&& 255).toUInt32 % 65536).toInt32 = tAt w j ∧ narrow .char (.int (tAt w j)) = .int (tAt w j) := by
  have h1 : ∀ i, i < 7 → ∀ j, j < tLen (1010 + i) → ((tAt (1010 + i) j &&& 255).toUInt32 % 65536).toInt32 = tAt (1010 + i) j ∧ narrow .char (.int (tAt (1010 + i) j)) = .int (tAt (1010 + i) j) := by decide +kernel
  obtain ⟨i, hi, rfl⟩ := isTxt_i h
  exact h1 i hi j hj
theorem mt_lat {j : Int32} (hw : isTxt w) (hj : vp_in j (tLen w)) : MX E l rmJ2 yJ1_charAt_3b067 cJ1_charAt_3b067 2 (some .char) [.ref (w + 10), .int j] n I L R (Qi n R (P00 I L (fun x => x = tAt w (ix j)))) := by
  have hl7 : ∀ i, i < 7 → tLen (1010 + i) < 100 := by decide +kernel
  have hlt : tLen w < 100 := by obtain ⟨i, hi, rfl⟩ := isTxt_i hw; exact hl7 i hi
  obtain ⟨q, hq, hqj⟩ := vp_in_of hj (by omega)
  have h0 : ¬ j < 0 := fun z => hj (Or.inl z)
  have h1 : j < nI (tLen w) := by rw [hqj]; exact nI_lt hq (by omega)
  refine MX_of (ls := [(0, .ref (w + 10)), (1, .int j)]) (by decide) (Nat.le_of_ble_eq_true rfl) rfl ?_
  refine x_iload_n dJ1_charAt_3b067_0 rfl ?_
  refine x_aload_n dJ1_charAt_3b067_1 rfl ?_
  refine x_tblen dJ1_charAt_3b067_2 hw ?_
  refine x_cJ [.int j, .int (nI (tLen w))] (mt_chk h0 h1) dJ1_charAt_3b067_3 lj_RJ1_9 cal_J0_checkIndex_df160 stt_J0_checkIndex_df160 rfl rfl (Nat.le_of_ble_eq_true rfl) (Rf_of rfl) (fun r hr => ?_) (fun v n' I' L' R' hq => by obtain ⟨_, a, b, c, d⟩ := hq; exact ⟨a, c, d, b⟩)
  obtain ⟨rfl, -, -, -, -⟩ := hr
  refine x_aload_n dJ1_charAt_3b067_6 rfl ?_
  refine x_iload_n dJ1_charAt_3b067_7 rfl ?_
  refine x_tbald dJ1_charAt_3b067_8 hw hj ?_
  refine x_sipush (v := 255) dJ1_charAt_3b067_9 ks_255 ?_
  refine x_iand dJ1_charAt_3b067_12 ?_
  refine x_i2c dJ1_charAt_3b067_13 ?_
  have ht := tAt_255 hw (show ix j < tLen w from Nat.not_le.mp fun z => hj (Or.inr z))
  rw [ht.1]
  exact x_nreturn dJ1_charAt_3b067_14 ht.2 ⟨_, rfl, rfl, rfl, rfl, rfl, rfl⟩
theorem mt_chat {j : Int32} (hw : isTxt w) (hj : vp_in j (tLen w)) : MX E l rmJ3 yJ0_charAt_5068e cJ0_charAt_5068e 2 (some .char) [.ref w, .int j] n I L R (Qi n R (P00 I L (fun x => x = tAt w (ix j)))) := by
  refine MX_of (ls := [(0, .ref w), (1, .int j)]) (by decide) (Nat.le_of_ble_eq_true rfl) rfl ?_
  refine x_aload_n dJ0_charAt_5068e_0 rfl ?_
  refine x_cT [] (mt_isLatin1 hw) dJ0_charAt_5068e_1 lj_RJ0_492 cal_J0_isLatin1_aae02 ins_J0_isLatin1_aae02 rfl hw rfl rfl (Nat.le_of_ble_eq_true rfl) (Rf_of rfl) (fun x hx => ?_)
  subst hx
  refine x_if_eq dJ0_charAt_5068e_4 (tgt := 16) rfl ⟨fun c => absurd c (by decide), fun c => ?_⟩
  refine x_aload_n dJ0_charAt_5068e_7 rfl ?_
  refine x_sval dJ0_charAt_5068e_8 hw fj_RJ0_9 ?_
  refine x_iload_n dJ0_charAt_5068e_11 rfl ?_
  refine x_cJ [.ref (w + 10), .int j] (mt_lat hw hj) dJ0_charAt_5068e_12 lj_RJ0_495 cal_J1_charAt_3b067 stt_J1_charAt_3b067 rfl rfl (Nat.le_of_ble_eq_true rfl) (Rf_of rfl) (fun r hr => ?_) (fun v n' I' L' R' hq => by obtain ⟨x, _, a, b, c, d, _⟩ := hq; exact ⟨a, c, d, b⟩)
  obtain ⟨x, rfl, -, -, -, -, hx⟩ := hr
  have ht := tAt_255 hw (show ix j < tLen w from Nat.not_le.mp fun z => hj (Or.inr z))
  exact x_nreturn dJ0_charAt_5068e_15 (by rw [hx]; exact ht.2) ⟨_, rfl, rfl, rfl, rfl, rfl, hx⟩
end STRM
