/-- what is left: from the empty memory, behind both constructors, the law's loop ends -/
def wp_start (Ln : Nat) (xs : Nat → Int32) : Prop :=
  ∀ I1 L1 R1, I1 = ur (fun _ _ => (0 : Int32)) 0 (fun _ => 0) → L1 = ur (fun _ _ => (0 : Int64)) 0 (fun _ => 0) → R1 = ur (fun _ _ => none) 0 (fun _ => none) → wp_X9_init I1 L1 R1 (fun I2 L2 R2 =>
    ∀ I3 L3 R3, I3 = ur I2 336 (fun _ => 0) → L3 = ur L2 336 (fun _ => 0) → R3 = ur R2 336 (fun _ => none) → wp_X10_init I3 L3 R3 (fun I4 L4 R4 => GRx R4 ∧ GRm R4 ∧ ∃ N, lp_law Ln xs N 0 I4 L4))
set_option maxRecDepth 20000 in
theorem law_X {E : Ev} {l : Launch} {Ln : Nat} {xs : Nat → Int32} (h : wp_start Ln xs) : X E l room_1 yL_law code 4 ret (lawX E Ln xs) lwZ 0 [(0, .ref 1100)] [] 0 (fun _ _ => 0) (fun _ _ => 0) (fun _ _ => none) 0 0 := by
  unfold wp_start at h
  refine x_new dL_law_0 wn_cl_RL_7 wn_inst_9 wn_init_9 fkw_7 rfl tyX9_ok sh_0 (by decide) (Nat.le_of_ble_eq_true rfl) (Nat.le_of_ble_eq_true rfl) wn_def_9 (fun I1 L1 R1 e1 e2 e3 => ?_)
  have h := h I1 L1 R1 e1 e2 e3
  refine x_cs 1 1 8 rfl rfl rfl ?_
  refine x_dup dL_law_3 rfl ?_
  refine x_callI [] (mt_X9_init h) dL_law_4 wn_lk_RL_9 cal_X9_init wn_im_X9_init rfl rfl rfl (Nat.le_of_ble_eq_true rfl) ⟨⟨Nat.le_of_ble_eq_true rfl, Nat.le_of_ble_eq_true rfl⟩, Nat.le_of_ble_eq_true rfl, Nat.le_of_ble_eq_true rfl⟩ (fun v n' I2 L2 R2 hq => ?_)
  obtain ⟨rfl, rfl, h⟩ := hq
  refine x_cs 336 336 15197 rfl rfl rfl ?_
  refine x_astore_n (ls' := [(1, .ref 0), (0, .ref 1100)]) dL_law_7 (Nat.le_of_ble_eq_true rfl) rfl ?_
  refine x_new dL_law_8 wn_cl_RL_10 wn_inst_10 wn_init_10 fkw_8 rfl tyX10_ok sh_336 (by decide) (Nat.le_of_ble_eq_true rfl) (Nat.le_of_ble_eq_true rfl) wn_def_10 (fun I3 L3 R3 e1 e2 e3 => ?_)
  have h := h I3 L3 R3 e1 e2 e3
  refine x_cs 337 337 15221 rfl rfl rfl ?_
  refine x_dup dL_law_11 rfl ?_
  refine x_callI [] (mt_X10_init h) dL_law_12 wn_lk_RL_12 cal_X10_init wn_im_X10_init rfl rfl rfl (Nat.le_of_ble_eq_true rfl) ⟨⟨Nat.le_of_ble_eq_true rfl, Nat.le_of_ble_eq_true rfl⟩, Nat.le_of_ble_eq_true rfl, Nat.le_of_ble_eq_true rfl⟩ (fun v n' I4 L4 R4 hq => ?_)
  obtain ⟨rfl, rfl, h⟩ := hq
  refine x_cs 349 349 50368 rfl rfl rfl ?_
  refine x_astore_n (ls' := [(2, .ref 336), (1, .ref 0), (0, .ref 1100)]) dL_law_15 (Nat.le_of_ble_eq_true rfl) rfl ?_
  refine x_iconst (v := 0) dL_law_16 ki_0 ?_
  refine x_istore_n (ls' := [(3, .int 0), (2, .ref 336), (1, .ref 0), (0, .ref 1100)]) dL_law_17 (Nat.le_of_ble_eq_true rfl) rfl ?_
  refine x_ls (ls' := [(0, .ref 1100), (1, .ref 0), (2, .ref 336), (3, .int 0)]) [3, 2, 1, 0] rfl ?_
  obtain ⟨hGx, hGm, N, h⟩ := h
  exact lpt_law N 0 I4 L4 R4 hGx hGm h
-- the start's constants
theorem st_arr : ∀ i, i < 4 → Cond.arrayOf (.static "SparesHouse$Words" (wNam.getD i "") "[I") .int ∈ flatC (Jvm.Cond.and given_1 narrow_1) := by decide +kernel
theorem st_len : ∀ i, i < 4 → Cond.eq (.length (.static "SparesHouse$Words" (wNam.getD i "") "[I")) (.int (Int32.ofNat (wTab.getD i []).length)) ∈ flatC (Jvm.Cond.and given_1 narrow_1) := by decide +kernel
theorem st_el : ∀ i, i < 4 → ∀ j, j < (wTab.getD i []).length → Cond.eq (.elem (.static "SparesHouse$Words" (wNam.getD i "") "[I") (.int (Int32.ofNat j))) (.int ((wTab.getD i []).getD j 0)) ∈ flatC (Jvm.Cond.and given_1 narrow_1) := by decide +kernel
theorem st_lay : ∀ i, i < 4 → Cond.laysStatic "SparesHouse$Words" (wNam.getD i "") "[I" ∈ lw_tbl := by decide +kernel
theorem st_ini : Cond.initialized "SparesHouse$Words" ∈ lw_tbl := by decide +kernel
theorem st_ex : ∀ i, i < 7 → Cond.exactly (.string "SparesHouse$Words" (wIdx.getD i 0)) "java/lang/String" ∈ flatC (Jvm.Cond.and given_1 narrow_1) := by decide +kernel
theorem st_co : ∀ i, i < 7 → Cond.eq (.field (.string "SparesHouse$Words" (wIdx.getD i 0)) "java/lang/String" "coder" "B") (.int 0) ∈ flatC (Jvm.Cond.and given_1 narrow_1) := by decide +kernel
theorem st_ba : ∀ i, i < 7 → Cond.arrayOf (.field (.string "SparesHouse$Words" (wIdx.getD i 0)) "java/lang/String" "value" "[B") .byte ∈ flatC (Jvm.Cond.and given_1 narrow_1) := by decide +kernel
theorem st_bl : ∀ i, i < 7 → Cond.eq (.length (.field (.string "SparesHouse$Words" (wIdx.getD i 0)) "java/lang/String" "value" "[B")) (.int (Int32.ofNat (wLen.getD i 0))) ∈ flatC (Jvm.Cond.and given_1 narrow_1) := by decide +kernel
theorem st_be : ∀ i, i < 7 → ∀ j, j < wLen.getD i 0 → Cond.eq (.elem (.field (.string "SparesHouse$Words" (wIdx.getD i 0)) "java/lang/String" "value" "[B") (.int (Int32.ofNat j))) (.int ((wByt.getD i []).getD j 0)) ∈ flatC (Jvm.Cond.and given_1 narrow_1) := by decide +kernel
theorem st_ne : ∀ i, i < 7 → ∀ j, j < 7 → i ≠ j → Cond.not (Cond.eq (.string "SparesHouse$Words" (wIdx.getD i 0)) (.string "SparesHouse$Words" (wIdx.getD j 0))) ∈ flatC (Jvm.Cond.and given_1 narrow_1) ∨ Cond.not (Cond.eq (.string "SparesHouse$Words" (wIdx.getD j 0)) (.string "SparesHouse$Words" (wIdx.getD i 0))) ∈ flatC (Jvm.Cond.and given_1 narrow_1) := by decide +kernel
theorem st_sr : ∀ i, i < 7 → Cond.stringRef "SparesHouse$Words" (wIdx.getD i 0) (wTxt.getD i "") ∈ lw_tbl := by decide +kernel
theorem st_cs : Cond.eq (.static "java/lang/String" "COMPACT_STRINGS" "Z") (.int 1) ∈ flatC (Jvm.Cond.and given_1 narrow_1) := by decide +kernel
theorem st_csl : Cond.laysStatic "java/lang/String" "COMPACT_STRINGS" "Z" ∈ lw_tbl ∧ Cond.initialized "java/lang/String" ∈ lw_tbl := by decide +kernel
theorem st_fm : Cond.isRef (.static "jdk/internal/util/Preconditions" "SIOOBE_FORMATTER" "Ljava/util/function/BiFunction;") ∈ flatC (Jvm.Cond.and given_1 narrow_1) := by decide +kernel
theorem st_fml : Cond.laysStatic "jdk/internal/util/Preconditions" "SIOOBE_FORMATTER" "Ljava/util/function/BiFunction;" ∈ lw_tbl ∧ Cond.initialized "jdk/internal/util/Preconditions" ∈ lw_tbl := by decide +kernel
theorem st_ao : Cond.arrayOver (.object "SparesHouse$Play") ∈ lw_tbl := by decide +kernel
theorem st_ac : Cond.arrayClass .int ∈ lw_tbl ∧ Cond.arrayClass .long ∈ lw_tbl ∧ Cond.arrayClass .byte ∈ lw_tbl := by decide +kernel
theorem st_A {s : State} {args : Array Value} {ty : FieldType} (h : (Cond.arrayClass ty).before args s = true) (ht : ∀ C, ty ≠ .object C) : ∃ cA, ArrOfT s cA ty ∧ va_RA s cA ty := by
  obtain ⟨cA, kA, comp, h1, h2, h3⟩ := Cond.arrayClass_spec h
  refine ⟨cA, fun n z => ⟨fun k h => (by cases h), kA, h2, comp, h3⟩, ?_⟩
  cases ty with
  | object C => exact absurd rfl (ht C)
  | _ => exact h1
set_option maxRecDepth 20000 in
set_option maxHeartbeats 4000000 in
theorem law_start {p : Program} {e : Env} {s : State} {m : MethodId} {below : List Frame} {meth : Method} {c : Code} (l : Launch) {b Ln : Nat} {xs : Nat → Int32} (hsem : wp_start Ln xs) (C0 : lw_At p s m meth c b Ln xs) : W p l e room_1 s m #[Value.ref b] below meth c s.heap [] 0 0 (lw_Z below #[Value.ref b] s) (entryFrame m ([Value.ref b] : List Value).toArray 4) := by
  obtain ⟨hx, hb, hr, hml, hown, hts, hX, hbl, hlocks, hgv⟩ := C0
  have hfl := flat_of_before _ hgv
  have hA : ∀ a : Nat, a < s.heap.size → ¬ (fun q : Nat => s.heap.size ≤ q) a := fun a h1 h2 => by omega
  have hgin : ∀ {C : String} {T : u_T} {N : Nat}, (∀ w ∈ u_ws C T N, w ∈ gt) → ∀ w ∈ u_ws C T N, w ∈ lw_tbl := fun h w hw => gt_in (h w hw)
  obtain ⟨c0, i0, k0⟩ := u_known (n := 3) hts (hgin fkw_0) (hts _ (gt_in wn_inst_0))
  obtain ⟨c1, i1, k1⟩ := u_known (n := 13) hts (hgin fkw_1) (hts _ (gt_in wn_inst_1))
  obtain ⟨c2, i2, k2⟩ := u_known (n := 19) hts (hgin fkw_2) (hts _ (gt_in wn_inst_2))
  obtain ⟨c3, i3, k3⟩ := u_known (n := 5) hts (hgin fkw_3) (hts _ (gt_in wn_inst_3))
  obtain ⟨c4, i4, k4⟩ := u_known (n := 2) hts (hgin fkw_4) (hts _ (gt_in wn_inst_4))
  obtain ⟨c5, i5, k5⟩ := u_known (n := 2) hts (hgin fkw_5) (hts _ (gt_in wn_inst_6))
  obtain ⟨c6, i6, k6⟩ := u_known (n := 13) hts (hgin fkw_6) (hts _ (gt_in wn_inst_8))
  obtain ⟨c7, i7, k7⟩ := u_known (n := 8) hts (hgin fkw_7) (hts _ (gt_in wn_inst_9))
  obtain ⟨c8, i8, k8⟩ := u_known (n := 24) hts (hgin fkw_8) (hts _ (gt_in wn_inst_10))
  obtain ⟨dC, dI, hKc⟩ : ∃ (dC : Nat → ClassId) (dI : Nat → Nat → Nat), ∀ (k : Nat) (q : vw_C), vwC[k]? = some q → u_Kn s q.1 q.2.1 q.2.2 (dC k) (dI k) := by
    refine ⟨fun k => [c0, c1, c2, c3, c4, c5, c6, c7, c8].getD k c0, fun k => [i0, i1, i2, i3, i4, i5, i6, i7, i8].getD k i0, ?_⟩
    intro k q hq
    match k, hq with
    | 0, hq => cases hq; exact k0
    | 1, hq => cases hq; exact k1
    | 2, hq => cases hq; exact k2
    | 3, hq => cases hq; exact k3
    | 4, hq => cases hq; exact k4
    | 5, hq => cases hq; exact k5
    | 6, hq => cases hq; exact k6
    | 7, hq => cases hq; exact k7
    | 8, hq => cases hq; exact k8
    | k + 9, hq => simp [vwC] at hq
  obtain ⟨aI, aI1, aI2⟩ := st_A (hts _ st_ac.1) (fun C h => by cases h)
  obtain ⟨aL, aL1, aL2⟩ := st_A (hts _ st_ac.2.1) (fun C h => by cases h)
  obtain ⟨aB, aB1, aB2⟩ := st_A (hts _ st_ac.2.2) (fun C h => by cases h)
  obtain ⟨compP, aP, kP, f1, f2, f3, f4, f5⟩ := Cond.arrayOver_spec (hts _ st_ao)
  have aP1 : ArrOfT s aP (.object "SparesHouse$Play") := fun N z => ⟨(fun k h => by cases h), kP, f3, compP, f4⟩
  have aP2 : va_RA s aP (.object "SparesHouse$Play") := ⟨kP, compP, f3, f4, f1, f5⟩
  have hT : ∀ i : Nat, i < 4 → ∃ t : Nat, (Term.static "SparesHouse$Words" (wNam.getD i "") "[I").eval #[Value.ref b] s none [] s = some (.ref t) ∧ va_T .int t (wTab.getD i []).length (fun j => .int ((wTab.getD i []).getD j 0)) (fun q : Nat => s.heap.size ≤ q) s s.heap := fun i hi =>
    va_Tof (by have h1 : ∀ i, i < 4 → (wTab.getD i []).length < 2 ^ 31 := by decide +kernel
               exact h1 i hi) (hfl _ (st_arr i hi)) (va_eqt (hfl _ (st_len i hi))) (fun j hj => va_eqt (hfl _ (st_el i hi j hj))) hA
  obtain ⟨t0, t0e, t0T⟩ := hT 0 (by decide)
  obtain ⟨t1, t1e, t1T⟩ := hT 1 (by decide)
  obtain ⟨t2, t2e, t2T⟩ := hT 2 (by decide)
  obtain ⟨t3, t3e, t3T⟩ := hT 3 (by decide)
  obtain ⟨adK, adV, hS, hSe⟩ := vk_Sof (args := #[Value.ref b]) (s := s) (N := 7) (tm := fun i => .string "SparesHouse$Words" (wIdx.getD i 0)) (len := wLen) (byt := wByt) (A := fun q : Nat => s.heap.size ≤ q) (by
    have h1 : ∀ i, i < 7 → wLen.getD i 0 < 2 ^ 31 := by decide +kernel
    exact h1) (fun i hi => hfl _ (st_ex i hi)) (fun i hi => hfl _ (st_co i hi)) (fun i hi => hfl _ (st_ba i hi)) (fun i hi => hfl _ (st_bl i hi)) (fun i hi j hj => hfl _ (st_be i hi j hj)) (fun i j hi hj hij => (st_ne i hi j hj hij).imp (fun z => hfl _ z) (fun z => hfl _ z)) hA
  have hZc := va_Zof (A := fun q : Nat => s.heap.size ≤ q) (hts _ st_csl.1) (hts _ st_csl.2) (va_eqt (hfl _ st_cs)) hA
  have hZf := va_Zqof (A := fun q : Nat => s.heap.size ≤ q) (hts _ st_fml.1) (hts _ st_fml.2) (hfl _ st_fm) hA
  obtain ⟨fm, hZf⟩ : ∃ fm : Nat, va_Z "jdk/internal/util/Preconditions" "SIOOBE_FORMATTER" "Ljava/util/function/BiFunction;" .null (fun q : Nat => s.heap.size ≤ q) s s.heap ∨ va_Z "jdk/internal/util/Preconditions" "SIOOBE_FORMATTER" "Ljava/util/function/BiFunction;" (.ref fm) (fun q : Nat => s.heap.size ≤ q) s s.heap := by
    rcases hZf with h | ⟨t, h⟩
    · exact ⟨0, Or.inl h⟩
    · exact ⟨t, Or.inr h⟩
  obtain ⟨adf, had0, hadT, hadK, hadV, hadF, hadB⟩ : ∃ adf : Nat → Nat, (∀ k, k < 1000 → adf k = s.heap.size + k) ∧ (∀ i, i < 4 → adf (1000 + i) = [t0, t1, t2, t3].getD i 0) ∧ (∀ i, i < 7 → adf (1010 + i) = adK i) ∧ (∀ i, i < 7 → adf (1020 + i) = adV i) ∧ adf 1040 = fm ∧ adf 1100 = b := by
    refine ⟨fun k => if k < 1000 then s.heap.size + k else if k < 1010 then [t0, t1, t2, t3].getD (k - 1000) 0 else if k < 1020 then adK (k - 1010) else if k < 1030 then adV (k - 1020) else if k = 1040 then fm else b, fun k hk => by simp [hk], fun i hi => ?_, fun i hi => ?_, fun i hi => ?_, by simp, by simp⟩
    · dsimp only
      rw [if_neg (by omega), if_pos (by omega), show 1000 + i - 1000 = i by omega]
    · dsimp only
      rw [if_neg (by omega), if_neg (by omega), if_pos (by omega), show 1010 + i - 1010 = i by omega]
    · dsimp only
      rw [if_neg (by omega), if_neg (by omega), if_neg (by omega), if_pos (by omega), show 1020 + i - 1020 = i by omega]
  obtain ⟨E, hE⟩ : ∃ E : Ev, E = (dC, dI, fun t => [aI, aL, aB, aP].getD t aI, s.heap.size, adf) := ⟨_, rfl⟩
  have hEF : eF E = fun q : Nat => s.heap.size ≤ q := by rw [hE]; rfl
  have hEa : ∀ k, ad E k = adf k := fun k => by rw [hE]
  have hEz : eZ E = s.heap.size := by rw [hE]
  have hK : va_K (eD E) vwC (tys E) s := by
    rw [hE]
    refine ⟨hKc, fun k q hq => ?_⟩
    match k, hq with
    | 0, hq => cases hq; exact ⟨aI1, aI2⟩
    | 1, hq => cases hq; exact ⟨aL1, aL2⟩
    | 2, hq => cases hq; exact ⟨aB1, aB2⟩
    | 3, hq => cases hq; exact ⟨aP1, aP2⟩
    | k + 4, hq => simp [tys] at hq
  have hSO : SO E s s.heap := by
    refine ⟨fun i hi => ?_, ?_, fun i hi => ?_, ?_, ?_, fun a i x z hm => va_Nw.of rfl (hts _ hm), va_AO.of (hts _ st_ao)⟩
    · rw [hEa, hadT i hi, hEF]
      match i, hi with
      | 0, hi => exact ⟨va_Zof (hts _ (st_lay 0 hi)) (hts _ st_ini) t0e hA, t0T⟩
      | 1, hi => exact ⟨va_Zof (hts _ (st_lay 1 hi)) (hts _ st_ini) t1e hA, t1T⟩
      | 2, hi => exact ⟨va_Zof (hts _ (st_lay 2 hi)) (hts _ st_ini) t2e hA, t2T⟩
      | 3, hi => exact ⟨va_Zof (hts _ (st_lay 3 hi)) (hts _ st_ini) t3e hA, t3T⟩
    · rw [hEF]
      refine ⟨fun i hi => ?_, fun i j hi hj h => ?_⟩
      · show va_O "java/lang/String" (ad E (1010 + i)) _ s s.heap ∧ va_OF "java/lang/String" "coder" "B" (.int 0) (ad E (1010 + i)) _ s s.heap ∧ va_OF "java/lang/String" "value" "[B" (.ref (ad E (1020 + i))) (ad E (1010 + i)) _ s s.heap ∧ va_T .byte (ad E (1020 + i)) _ _ _ s s.heap
        rw [hEa, hEa, hadK i hi, hadV i hi]
        exact hS.1 i hi
      · have h : ad E (1010 + i) = ad E (1010 + j) := h
        rw [hEa, hEa, hadK i hi, hadK j hj] at h
        exact hS.2 i j hi hj h
    · rw [hEa, hadK i hi]
      exact vk_R.of (A := #[Value.ref b]) (hts _ (st_sr i hi)) (by
        have h1 := hSe i hi
        exact h1)
    · rw [hEF]; exact hZc
    · rw [hEF, hEa, hadF]; exact hZf
  have hl := lv_entry ([.ref b]) (n := 4) (Nat.le_of_ble_eq_true rfl)
  rw [lg_entry_eq]
  have hl : lv_has ((lg_sl ([.ref b]) ++ List.replicate (4 - (lg_sl ([.ref b])).length) Slot.unset).toArray) 4 (([(0, .ref 1100)] : List (Nat × Value)).map (tq E)) := by
    have e1 : ([(0, .ref 1100)] : List (Nat × Value)).map (tq E) = lv_args 0 [.ref b] := by
      show [(0, Value.ref (ad E 1100))] = [(0, Value.ref b)]
      rw [hEa, hadB]
    rw [e1]
    exact hl
  have hC : Cx E (lawX E Ln xs) p s m #[Value.ref b] meth c yL_law code 4 ret :=
    ⟨hx, hb, hr, hml, hown, fun w hw => hts w (gt_in hw), hlocks, fun h => absurd h (by decide), hK, hSO, by rw [hEz]; exact Nat.le_refl _, fun k hk => by rw [hEa, hEz]; exact had0 k hk, by rw [hEa, hadB], by rw [hEa, hadB]; exact hX, by rw [hEa, hadB]; exact hbl, hEz⟩
  have hD : Dx E 0 (fun _ _ => 0) (fun _ _ => 0) (fun _ _ => none) s s.heap [] 0 :=
    ⟨fun k q h => by simp [Om] at h, ⟨fun i j p q h => by simp [Om] at h, fun k q h => by simp [Om] at h⟩, va_S.rf, by rw [hEz]; rfl, by rw [hEz]; exact Nat.le_refl _⟩
  exact law_X hsem p e s m #[Value.ref b] below meth c hC s.heap [] _ hD hl
