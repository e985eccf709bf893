abbrev rm_X10_power : Room := { frames := 0, cells := 0, slots := 0, locals := 0 }
def lp_X10_power_5 (v0 : Int64) (v2 : Int32) (Q : Int64 → Prop) : Nat → Int64 → Int32 → Prop
  | 0, _, _ => False
  | n + 1, v3, v5 =>
    ((v2 ≤ v5 → Q v3) ∧ (¬ v2 ≤ v5 → (lp_X10_power_5 v0 v2 Q n (v3 * v0) (v5 + 1))))
set_option maxRecDepth 20000 in
theorem lpt_X10_power_5 {E : Ev} {l : Launch} {n : Nat} {R : MR} (hn : 349 ≤ n) (hG : GRm R) {Q : Int64 → Prop} {v0 : Int64} {v2 : Int32} {I : MI} {L : ML} : ∀ (N : Nat) (v3 : Int64) (v5 : Int32), lp_X10_power_5 v0 v2 Q N v3 v5 → X E l rm_X10_power yX10_power cX10_power 6 (some .long) noX (ZM E rm_X10_power (Ql n R (P00 I L Q))) 5 [(0, .long v0), (2, .int v2), (3, .long v3), (5, .int v5)] [] n I L R 0 0 := by
  intro N
  induction N with
  | zero => intro v3 v5 h; exact False.elim h
  | succ N ih =>
    intro v3 v5 h
    unfold lp_X10_power_5 at h
    refine x_iload dX10_power_5 rfl ?_
    refine x_iload_n dX10_power_7 rfl ?_
    refine x_icmp_ge dX10_power_8 (tgt := 21) rfl ⟨fun c1 => ?_, fun c1 => ?_⟩
    · have h := h.1 c1
      refine x_lload_n dX10_power_21 rfl ?_
      exact x_lreturn dX10_power_22 ⟨_, rfl, rfl, rfl, rfl, rfl, h⟩
    · have h := h.2 c1
      refine x_lload_n dX10_power_11 rfl ?_
      refine x_lload_n dX10_power_12 rfl ?_
      refine x_lmul dX10_power_13 ?_
      refine x_lstore_n (ls' := [(3, .long (v3 * v0)), (0, .long v0), (2, .int v2), (5, .int v5)]) dX10_power_14 (Nat.le_of_ble_eq_true rfl) rfl ?_
      refine x_iinc (v := v5 + 1) (ls' := [(5, .int (v5 + 1)), (3, .long (v3 * v0)), (0, .long v0), (2, .int v2)]) dX10_power_15 rfl (congrArg (_ + ·) ki_1) (Nat.le_of_ble_eq_true rfl) rfl ?_
      refine x_goto dX10_power_18 (tgt := 5) rfl ?_
      refine x_ls (ls' := [(0, .long v0), (2, .int v2), (3, .long (v3 * v0)), (5, .int (v5 + 1))]) [2, 3, 1, 0] rfl ?_
      exact ih (v3 * v0) (v5 + 1) h
def wp_X10_power (v0 : Int64) (v2 : Int32) (Q : Int64 → Prop) : Prop :=
    (∃ N2, lp_X10_power_5 v0 v2 Q N2 1 0)
set_option maxRecDepth 20000 in
theorem mt_X10_power {E : Ev} {l : Launch} {n : Nat} {R : MR} (hn : 349 ≤ n) (hG : GRm R) {I : MI} {L : ML} {v0 : Int64} {v2 : Int32} {Q : Int64 → Prop} (h : wp_X10_power v0 v2 Q) : MX E l rm_X10_power yX10_power cX10_power 6 (some .long) [.long v0, .int v2] n I L R (Ql n R (P00 I L Q)) := by
  refine MX_of (ls := [(0, .long v0), (2, .int v2)]) (by decide) (Nat.le_of_ble_eq_true rfl) rfl ?_
  unfold wp_X10_power at h
  refine x_lconst (v := 1) dX10_power_0 rfl ?_
  refine x_lstore_n (ls' := [(3, .long 1), (0, .long v0), (2, .int v2)]) dX10_power_1 (Nat.le_of_ble_eq_true rfl) rfl ?_
  refine x_iconst (v := 0) dX10_power_2 ki_0 ?_
  refine x_istore (ls' := [(5, .int 0), (3, .long 1), (0, .long v0), (2, .int v2)]) dX10_power_3 (Nat.le_of_ble_eq_true rfl) rfl ?_
  refine x_ls (ls' := [(0, .long v0), (2, .int v2), (3, .long 1), (5, .int 0)]) [2, 3, 1, 0] rfl ?_
  obtain ⟨N2, h⟩ := h
  exact lpt_X10_power_5 hn hG  N2 1 0 h
abbrev rm_X10_outOf : Room := { frames := 1, cells := 0, slots := 0, locals := 25 }
def lp_X10_outOf_23 (v2 : Int32) (v3 : Int32) (kf51 : Int64 → Prop) : Nat → Int64 → Int32 → Prop
  | 0, _, _ => False
  | n + 1, v4, v6 =>
    ((v2 ≤ v6 → kf51 v4) ∧ (¬ v2 ≤ v6 → (¬ ((v6 + 1).toInt64) = 0 ∧ (lp_X10_outOf_23 v2 v3 kf51 n ((v4 * ((v3 - v6).toInt64)) / ((v6 + 1).toInt64)) (v6 + 1)))))
set_option maxRecDepth 20000 in
theorem lpt_X10_outOf_23 {E : Ev} {l : Launch} {n : Nat} {R : MR} (hn : 349 ≤ n) (hG : GRm R) {Q : Int64 → Prop} {v1 : Int32} {v2 : Int32} {v3 : Int32} {I : MI} {L : ML} {kf51 : Int64 → Prop}
    (hK51 : ∀ (v4 : Int64), kf51 v4 → X E l rm_X10_outOf yX10_outOf cX10_outOf 7 (some .long) noX (ZM E rm_X10_outOf (Ql n R (P00 I L Q))) 51 [(0, .ref 336), (1, .int v1), (2, .int v2), (3, .int v3), (4, .long v4)] [] n I L R 0 0) : ∀ (N : Nat) (v4 : Int64) (v6 : Int32), lp_X10_outOf_23 v2 v3 kf51 N v4 v6 → X E l rm_X10_outOf yX10_outOf cX10_outOf 7 (some .long) noX (ZM E rm_X10_outOf (Ql n R (P00 I L Q))) 23 [(0, .ref 336), (1, .int v1), (2, .int v2), (3, .int v3), (4, .long v4), (6, .int v6)] [] n I L R 0 0 := by
  intro N
  induction N with
  | zero => intro v4 v6 h; exact False.elim h
  | succ N ih =>
    intro v4 v6 h
    unfold lp_X10_outOf_23 at h
    refine x_iload dX10_outOf_23 rfl ?_
    refine x_iload_n dX10_outOf_25 rfl ?_
    refine x_icmp_ge dX10_outOf_26 (tgt := 51) rfl ⟨fun c3 => ?_, fun c3 => ?_⟩
    · have h := h.1 c3
      refine x_ls (ls' := [(0, .ref 336), (1, .int v1), (2, .int v2), (3, .int v3), (4, .long v4)]) [0, 1, 2, 3, 4] rfl ?_
      exact hK51 v4 h
    · have h := h.2 c3
      refine x_lload dX10_outOf_29 rfl ?_
      refine x_iload_n dX10_outOf_31 rfl ?_
      refine x_iload dX10_outOf_32 rfl ?_
      refine x_isub dX10_outOf_34 ?_
      refine x_i2l dX10_outOf_35 ?_
      refine x_lmul dX10_outOf_36 ?_
      refine x_iload dX10_outOf_37 rfl ?_
      refine x_iconst (v := 1) dX10_outOf_39 ki_1 ?_
      refine x_iadd dX10_outOf_40 ?_
      refine x_i2l dX10_outOf_41 ?_
      obtain ⟨b4, h⟩ := h
      refine x_ldiv dX10_outOf_42 b4 ?_
      refine x_lstore (ls' := [(4, .long ((v4 * ((v3 - v6).toInt64)) / ((v6 + 1).toInt64))), (0, .ref 336), (1, .int v1), (2, .int v2), (3, .int v3), (6, .int v6)]) dX10_outOf_43 (Nat.le_of_ble_eq_true rfl) rfl ?_
      refine x_iinc (v := v6 + 1) (ls' := [(6, .int (v6 + 1)), (4, .long ((v4 * ((v3 - v6).toInt64)) / ((v6 + 1).toInt64))), (0, .ref 336), (1, .int v1), (2, .int v2), (3, .int v3)]) dX10_outOf_45 rfl (congrArg (_ + ·) ki_1) (Nat.le_of_ble_eq_true rfl) rfl ?_
      refine x_goto dX10_outOf_48 (tgt := 23) rfl ?_
      refine x_ls (ls' := [(0, .ref 336), (1, .int v1), (2, .int v2), (3, .int v3), (4, .long ((v4 * ((v3 - v6).toInt64)) / ((v6 + 1).toInt64))), (6, .int (v6 + 1))]) [2, 3, 4, 5, 1, 0] rfl ?_
      exact ih ((v4 * ((v3 - v6).toInt64)) / ((v6 + 1).toInt64)) (v6 + 1) h
def wp_X10_outOf (I : MI) (v1 : Int32) (v2 : Int32) (Q : Int64 → Prop) : Prop :=
    (vp_in (32 + v1) 2212 ∧ ((v2 ≤ (I 337 (ix (32 + v1))) → (∃ N5, lp_X10_outOf_23 v2 (I 337 (ix (32 + v1))) (fun x6 => (vp_in (41 + v1) 2212 ∧ (wp_X10_power ((I 337 (ix (41 + v1))).toInt64) v2 (fun x8 => ((vp_in (41 + v1) 2212 ∧ (wp_X10_power ((12 - (I 337 (ix (41 + v1)))).toInt64) ((I 337 (ix (32 + v1))) - v2) (fun x10 => ((wp_X10_power 12 (8 - (I 337 (ix (32 + v1)))) (fun x11 => (Q (((x6 * x8) * x10) * x11))))))))))))) N5 1 0)) ∧ (¬ v2 ≤ (I 337 (ix (32 + v1))) → Q 0)))
set_option maxRecDepth 20000 in
theorem mt_X10_outOf {E : Ev} {l : Launch} {n : Nat} {R : MR} (hn : 349 ≤ n) (hG : GRm R) {I : MI} {L : ML} {v1 : Int32} {v2 : Int32} {Q : Int64 → Prop} (h : wp_X10_outOf I v1 v2 Q) : MX E l rm_X10_outOf yX10_outOf cX10_outOf 7 (some .long) [.ref 336, .int v1, .int v2] n I L R (Ql n R (P00 I L Q)) := by
  refine MX_of (ls := [(0, .ref 336), (1, .int v1), (2, .int v2)]) (by decide) (Nat.le_of_ble_eq_true rfl) rfl ?_
  unfold wp_X10_outOf at h
  refine x_aload_n dX10_outOf_0 rfl ?_
  refine x_getr (j := 337) dX10_outOf_1 fk_RX10_7 (km rfl hn) sh_336 (rt_336_1 hG) ?_
  refine x_bipush (v := 32) dX10_outOf_4 kb_32 ?_
  refine x_iload_n dX10_outOf_6 rfl ?_
  refine x_iadd dX10_outOf_7 ?_
  obtain ⟨b1, h⟩ := h
  refine x_iaload dX10_outOf_8 (km rfl hn) sh_337 b1 ?_
  refine x_istore_n (ls' := [(3, .int (I 337 (ix (32 + v1)))), (0, .ref 336), (1, .int v1), (2, .int v2)]) dX10_outOf_9 (Nat.le_of_ble_eq_true rfl) rfl ?_
  refine x_iload_n dX10_outOf_10 rfl ?_
  refine x_iload_n dX10_outOf_11 rfl ?_
  refine x_icmp_le dX10_outOf_12 (tgt := 17) rfl ⟨fun c2 => ?_, fun c2 => ?_⟩
  · have h := h.1 c2
    refine x_lconst (v := 1) dX10_outOf_17 rfl ?_
    refine x_lstore (ls' := [(4, .long 1), (3, .int (I 337 (ix (32 + v1)))), (0, .ref 336), (1, .int v1), (2, .int v2)]) dX10_outOf_18 (Nat.le_of_ble_eq_true rfl) rfl ?_
    refine x_iconst (v := 0) dX10_outOf_20 ki_0 ?_
    refine x_istore (ls' := [(6, .int 0), (4, .long 1), (3, .int (I 337 (ix (32 + v1)))), (0, .ref 336), (1, .int v1), (2, .int v2)]) dX10_outOf_21 (Nat.le_of_ble_eq_true rfl) rfl ?_
    refine x_ls (ls' := [(0, .ref 336), (1, .int v1), (2, .int v2), (3, .int (I 337 (ix (32 + v1)))), (4, .long 1), (6, .int 0)]) [3, 4, 5, 2, 1, 0] rfl ?_
    obtain ⟨N5, h⟩ := h
    refine lpt_X10_outOf_23 hn hG (fun x6 h => ?_) N5 1 0 h
    refine x_lload dX10_outOf_51 rfl ?_
    refine x_aload_n dX10_outOf_53 rfl ?_
    refine x_getr (j := 337) dX10_outOf_54 fk_RX10_7 (km rfl hn) sh_336 (rt_336_1 hG) ?_
    refine x_bipush (v := 41) dX10_outOf_57 kb_41 ?_
    refine x_iload_n dX10_outOf_59 rfl ?_
    refine x_iadd dX10_outOf_60 ?_
    obtain ⟨b7, h⟩ := h
    refine x_iaload dX10_outOf_61 (km rfl hn) sh_337 b7 ?_
    refine x_i2l dX10_outOf_62 ?_
    refine x_iload_n dX10_outOf_63 rfl ?_
    refine x_cSl00 [.long ((I 337 (ix (41 + v1))).toInt64), .int v2] (mt_X10_power hn hG h) dX10_outOf_64 lk_RX10_245 rfl rfl (Nat.le_of_ble_eq_true rfl) (Rf_of rfl) (fun x8 h => ?_)
    refine x_lmul dX10_outOf_67 ?_
    refine x_bipush (v := 12) dX10_outOf_68 kb_12 ?_
    refine x_aload_n dX10_outOf_70 rfl ?_
    refine x_getr (j := 337) dX10_outOf_71 fk_RX10_7 (km rfl hn) sh_336 (rt_336_1 hG) ?_
    refine x_bipush (v := 41) dX10_outOf_74 kb_41 ?_
    refine x_iload_n dX10_outOf_76 rfl ?_
    refine x_iadd dX10_outOf_77 ?_
    obtain ⟨b9, h⟩ := h
    refine x_iaload dX10_outOf_78 (km rfl hn) sh_337 b9 ?_
    refine x_isub dX10_outOf_79 ?_
    refine x_i2l dX10_outOf_80 ?_
    refine x_iload_n dX10_outOf_81 rfl ?_
    refine x_iload_n dX10_outOf_82 rfl ?_
    refine x_isub dX10_outOf_83 ?_
    refine x_cSl00 [.long ((12 - (I 337 (ix (41 + v1)))).toInt64), .int ((I 337 (ix (32 + v1))) - v2)] (mt_X10_power hn hG h) dX10_outOf_84 lk_RX10_245 rfl rfl (Nat.le_of_ble_eq_true rfl) (Rf_of rfl) (fun x10 h => ?_)
    refine x_lmul dX10_outOf_87 ?_
    refine x_ldc2 (v := 12) dX10_outOf_88 kc_RX10_249 ?_
    refine x_bipush (v := 8) dX10_outOf_91 kb_8 ?_
    refine x_iload_n dX10_outOf_93 rfl ?_
    refine x_isub dX10_outOf_94 ?_
    refine x_cSl00 [.long 12, .int (8 - (I 337 (ix (32 + v1))))] (mt_X10_power hn hG h) dX10_outOf_95 lk_RX10_245 rfl rfl (Nat.le_of_ble_eq_true rfl) (Rf_of rfl) (fun x11 h => ?_)
    refine x_lmul dX10_outOf_98 ?_
    exact x_lreturn dX10_outOf_99 ⟨_, rfl, rfl, rfl, rfl, rfl, h⟩
  · have h := h.2 c2
    refine x_lconst (v := 0) dX10_outOf_15 rfl ?_
    exact x_lreturn dX10_outOf_16 ⟨_, rfl, rfl, rfl, rfl, rfl, h⟩
abbrev rm_X10_lackOf : Room := { frames := 2, cells := 0, slots := 0, locals := 51 }
def lp_X10_lackOf_7 (I : MI) (v1 : Int32) (v2 : Int32) (Q : Int64 → Prop) : Nat → Int64 → Int32 → Prop
  | 0, _, _ => False
  | n + 1, v3, v5 =>
    ((8 < v5 → Q v3) ∧ (¬ 8 < v5 → (wp_X10_outOf I v1 v5 (fun x2 => ((lp_X10_lackOf_7 I v1 v2 Q n (v3 + (((v5 - v2).toInt64) * x2)) (v5 + 1)))))))
set_option maxRecDepth 20000 in
theorem lpt_X10_lackOf_7 {E : Ev} {l : Launch} {n : Nat} {R : MR} (hn : 349 ≤ n) (hG : GRm R) {Q : Int64 → Prop} {v1 : Int32} {v2 : Int32} {I : MI} {L : ML} : ∀ (N : Nat) (v3 : Int64) (v5 : Int32), lp_X10_lackOf_7 I v1 v2 Q N v3 v5 → X E l rm_X10_lackOf yX10_lackOf cX10_lackOf 6 (some .long) noX (ZM E rm_X10_lackOf (Ql n R (P00 I L Q))) 7 [(0, .ref 336), (1, .int v1), (2, .int v2), (3, .long v3), (5, .int v5)] [] n I L R 0 0 := by
  intro N
  induction N with
  | zero => intro v3 v5 h; exact False.elim h
  | succ N ih =>
    intro v3 v5 h
    unfold lp_X10_lackOf_7 at h
    refine x_iload dX10_lackOf_7 rfl ?_
    refine x_bipush (v := 8) dX10_lackOf_9 kb_8 ?_
    refine x_icmp_gt dX10_lackOf_11 (tgt := 36) rfl ⟨fun c1 => ?_, fun c1 => ?_⟩
    · have h := h.1 c1
      refine x_lload_n dX10_lackOf_36 rfl ?_
      exact x_lreturn dX10_lackOf_37 ⟨_, rfl, rfl, rfl, rfl, rfl, h⟩
    · have h := h.2 c1
      refine x_lload_n dX10_lackOf_14 rfl ?_
      refine x_iload dX10_lackOf_15 rfl ?_
      refine x_iload_n dX10_lackOf_17 rfl ?_
      refine x_isub dX10_lackOf_18 ?_
      refine x_i2l dX10_lackOf_19 ?_
      refine x_aload_n dX10_lackOf_20 rfl ?_
      refine x_iload_n dX10_lackOf_21 rfl ?_
      refine x_iload dX10_lackOf_22 rfl ?_
      refine x_cVl00 [.int v1, .int v5] (mt_X10_outOf hn hG h) dX10_lackOf_24 lk_RX10_251 (km rfl hn) sh_336 rfl rfl (Nat.le_of_ble_eq_true rfl) (Rf_of rfl) (fun x2 h => ?_)
      refine x_lmul dX10_lackOf_27 ?_
      refine x_ladd dX10_lackOf_28 ?_
      refine x_lstore_n (ls' := [(3, .long (v3 + (((v5 - v2).toInt64) * x2))), (0, .ref 336), (1, .int v1), (2, .int v2), (5, .int v5)]) dX10_lackOf_29 (Nat.le_of_ble_eq_true rfl) rfl ?_
      refine x_iinc (v := v5 + 1) (ls' := [(5, .int (v5 + 1)), (3, .long (v3 + (((v5 - v2).toInt64) * x2))), (0, .ref 336), (1, .int v1), (2, .int v2)]) dX10_lackOf_30 rfl (congrArg (_ + ·) ki_1) (Nat.le_of_ble_eq_true rfl) rfl ?_
      refine x_goto dX10_lackOf_33 (tgt := 7) rfl ?_
      refine x_ls (ls' := [(0, .ref 336), (1, .int v1), (2, .int v2), (3, .long (v3 + (((v5 - v2).toInt64) * x2))), (5, .int (v5 + 1))]) [2, 3, 4, 1, 0] rfl ?_
      exact ih (v3 + (((v5 - v2).toInt64) * x2)) (v5 + 1) h
def wp_X10_lackOf (I : MI) (v1 : Int32) (v2 : Int32) (Q : Int64 → Prop) : Prop :=
    (∃ N3, lp_X10_lackOf_7 I v1 v2 Q N3 0 (v2 + 1))
set_option maxRecDepth 20000 in
theorem mt_X10_lackOf {E : Ev} {l : Launch} {n : Nat} {R : MR} (hn : 349 ≤ n) (hG : GRm R) {I : MI} {L : ML} {v1 : Int32} {v2 : Int32} {Q : Int64 → Prop} (h : wp_X10_lackOf I v1 v2 Q) : MX E l rm_X10_lackOf yX10_lackOf cX10_lackOf 6 (some .long) [.ref 336, .int v1, .int v2] n I L R (Ql n R (P00 I L Q)) := by
  refine MX_of (ls := [(0, .ref 336), (1, .int v1), (2, .int v2)]) (by decide) (Nat.le_of_ble_eq_true rfl) rfl ?_
  unfold wp_X10_lackOf at h
  refine x_lconst (v := 0) dX10_lackOf_0 rfl ?_
  refine x_lstore_n (ls' := [(3, .long 0), (0, .ref 336), (1, .int v1), (2, .int v2)]) dX10_lackOf_1 (Nat.le_of_ble_eq_true rfl) rfl ?_
  refine x_iload_n dX10_lackOf_2 rfl ?_
  refine x_iconst (v := 1) dX10_lackOf_3 ki_1 ?_
  refine x_iadd dX10_lackOf_4 ?_
  refine x_istore (ls' := [(5, .int (v2 + 1)), (3, .long 0), (0, .ref 336), (1, .int v1), (2, .int v2)]) dX10_lackOf_5 (Nat.le_of_ble_eq_true rfl) rfl ?_
  refine x_ls (ls' := [(0, .ref 336), (1, .int v1), (2, .int v2), (3, .long 0), (5, .int (v2 + 1))]) [2, 3, 4, 1, 0] rfl ?_
  obtain ⟨N3, h⟩ := h
  exact lpt_X10_lackOf_7 hn hG  N3 0 (v2 + 1) h
abbrev rm_X10_layBest : Room := { frames := 3, cells := 0, slots := 0, locals := 76 }
def lp_X10_layBest_16 (v1 : Int32) (kf52 : MI → ML → Prop) : Nat → Int32 → MI → ML → Prop
  | 0, _, _, _ => False
  | n + 1, v2, I, L =>
    ((100 ≤ v2 → kf52 I L) ∧ (¬ 100 ≤ v2 → (vp_in ((100 * v1) + v2) 1000 ∧ (∀ L5, L5 = u2 L 345 (ix ((100 * v1) + v2)) 0 → (vp_in ((100 * v1) + v2) 1000 ∧ (∀ I7, I7 = u2 I 346 (ix ((100 * v1) + v2)) 0 → (lp_X10_layBest_16 v1 kf52 n (v2 + 1) I7 L5)))))))
set_option maxRecDepth 20000 in
theorem lpt_X10_layBest_16 {E : Ev} {l : Launch} {n : Nat} {R : MR} (hn : 349 ≤ n) (hG : GRm R) {I0 : MI} {L0 : ML} {Q : MI → ML → Prop} {v1 : Int32} {kf52 : MI → ML → Prop}
    (hK52 : ∀ (I : MI) (L : ML), kf52 I L → X E l rm_X10_layBest yX10_layBest cX10_layBest 11 none noX (ZM E rm_X10_layBest (Qv n R (V11 I0 L0 Q))) 52 [(0, .ref 336), (1, .int v1)] [] n I L R 0 0) : ∀ (N : Nat) (v2 : Int32) (I : MI) (L : ML), lp_X10_layBest_16 v1 kf52 N v2 I L → X E l rm_X10_layBest yX10_layBest cX10_layBest 11 none noX (ZM E rm_X10_layBest (Qv n R (V11 I0 L0 Q))) 16 [(0, .ref 336), (1, .int v1), (2, .int v2)] [] n I L R 0 0 := by
  intro N
  induction N with
  | zero => intro v2 I L h; exact False.elim h
  | succ N ih =>
    intro v2 I L h
    unfold lp_X10_layBest_16 at h
    refine x_iload_n dX10_layBest_16 rfl ?_
    refine x_bipush (v := 100) dX10_layBest_17 kb_100 ?_
    refine x_icmp_ge dX10_layBest_19 (tgt := 52) rfl ⟨fun c3 => ?_, fun c3 => ?_⟩
    · have h := h.1 c3
      refine x_ls (ls' := [(0, .ref 336), (1, .int v1)]) [0, 1] rfl ?_
      exact hK52 I L h
    · have h := h.2 c3
      refine x_aload_n dX10_layBest_22 rfl ?_
      refine x_getr (j := 345) dX10_layBest_23 fk_RX10_34 (km rfl hn) sh_336 (rt_336_19 hG) ?_
      refine x_bipush (v := 100) dX10_layBest_26 kb_100 ?_
      refine x_iload_n dX10_layBest_28 rfl ?_
      refine x_imul dX10_layBest_29 ?_
      refine x_iload_n dX10_layBest_30 rfl ?_
      refine x_iadd dX10_layBest_31 ?_
      refine x_lconst (v := 0) dX10_layBest_32 rfl ?_
      obtain ⟨b4, h⟩ := h
      refine x_lastore dX10_layBest_33 (km rfl hn) sh_345 b4 (fun L5 eL5 => ?_)
      have h := h L5 eL5
      refine x_aload_n dX10_layBest_34 rfl ?_
      refine x_getr (j := 346) dX10_layBest_35 fk_RX10_38 (km rfl hn) sh_336 (rt_336_20 hG) ?_
      refine x_bipush (v := 100) dX10_layBest_38 kb_100 ?_
      refine x_iload_n dX10_layBest_40 rfl ?_
      refine x_imul dX10_layBest_41 ?_
      refine x_iload_n dX10_layBest_42 rfl ?_
      refine x_iadd dX10_layBest_43 ?_
      refine x_iconst (v := 0) dX10_layBest_44 ki_0 ?_
      obtain ⟨b6, h⟩ := h
      refine x_iastore dX10_layBest_45 (km rfl hn) sh_346 b6 (fun I7 eI7 => ?_)
      have h := h I7 eI7
      refine x_iinc (v := v2 + 1) (ls' := [(2, .int (v2 + 1)), (0, .ref 336), (1, .int v1)]) dX10_layBest_46 rfl (congrArg (_ + ·) ki_1) (Nat.le_of_ble_eq_true rfl) rfl ?_
      refine x_goto dX10_layBest_49 (tgt := 16) rfl ?_
      refine x_ls (ls' := [(0, .ref 336), (1, .int v1), (2, .int (v2 + 1))]) [1, 2, 0] rfl ?_
      exact ih (v2 + 1) I7 L5 h
def jn_X10_layBest_322 (I : MI) (L : ML) (v6 : Int32) (kj124 : Int32 → MI → ML → Prop) : Prop :=
    kj124 (v6 + 1) I L
set_option maxRecDepth 20000 in
theorem jnt_X10_layBest_322 {E : Ev} {l : Launch} {n : Nat} {R : MR} (hn : 349 ≤ n) (hG : GRm R) {I0 : MI} {L0 : ML} {Q : MI → ML → Prop} {I : MI} {L : ML} {v2 : Int32} {v3 : Int32} {v4 : Int32} {v5 : Int32} {v6 : Int32} {kj124 : Int32 → MI → ML → Prop}
    (hJ124 : ∀ (v6 : Int32) (I : MI) (L : ML), kj124 v6 I L → X E l rm_X10_layBest yX10_layBest cX10_layBest 11 none noX (ZM E rm_X10_layBest (Qv n R (V11 I0 L0 Q))) 124 [(0, .ref 336), (2, .int v2), (3, .int v3), (4, .int v4), (5, .int v5), (6, .int v6)] [] n I L R 0 0) (h : jn_X10_layBest_322 I L v6 kj124) : X E l rm_X10_layBest yX10_layBest cX10_layBest 11 none noX (ZM E rm_X10_layBest (Qv n R (V11 I0 L0 Q))) 322 [(0, .ref 336), (2, .int v2), (3, .int v3), (4, .int v4), (5, .int v5), (6, .int v6)] [] n I L R 0 0 := by
  unfold jn_X10_layBest_322 at h
  refine x_iinc (v := v6 + 1) (ls' := [(6, .int (v6 + 1)), (0, .ref 336), (2, .int v2), (3, .int v3), (4, .int v4), (5, .int v5)]) dX10_layBest_322 rfl (congrArg (_ + ·) ki_1) (Nat.le_of_ble_eq_true rfl) rfl ?_
  refine x_goto dX10_layBest_325 (tgt := 124) rfl ?_
  refine x_ls (ls' := [(0, .ref 336), (2, .int v2), (3, .int v3), (4, .int v4), (5, .int v5), (6, .int (v6 + 1))]) [1, 2, 3, 4, 5, 0] rfl ?_
  exact hJ124 (v6 + 1) I L h
def jn_X10_layBest_273 (I : MI) (L : ML) (v2 : Int32) (v5 : Int32) (v6 : Int32) (v7 : Int64) (v9 : Int32) (s0 : Int32) (kj124 : Int32 → MI → ML → Prop) : Prop :=
    ((s0 = 0 → (jn_X10_layBest_322 I L v6 (fun x31 I32 L33 => kj124 x31 I32 L33))) ∧ (¬ s0 = 0 → (vp_in ((100 * v2) + v5) 1000 ∧ (∀ L35, L35 = u2 L 345 (ix ((100 * v2) + v5)) v7 → (vp_in ((100 * v2) + v5) 1000 ∧ (∀ I37, I37 = u2 I 346 (ix ((100 * v2) + v5)) v9 → (vp_in ((100 * v2) + v5) 1000 ∧ (∀ I39, I39 = u2 I37 347 (ix ((100 * v2) + v5)) v6 → (jn_X10_layBest_322 I39 L35 v6 (fun x40 I41 L42 => kj124 x40 I41 L42))))))))))
set_option maxRecDepth 20000 in
theorem jnt_X10_layBest_273 {E : Ev} {l : Launch} {n : Nat} {R : MR} (hn : 349 ≤ n) (hG : GRm R) {I0 : MI} {L0 : ML} {Q : MI → ML → Prop} {I : MI} {L : ML} {v2 : Int32} {v3 : Int32} {v4 : Int32} {v5 : Int32} {v6 : Int32} {v7 : Int64} {v9 : Int32} {s0 : Int32} {kj124 : Int32 → MI → ML → Prop}
    (hJ124 : ∀ (v6 : Int32) (I : MI) (L : ML), kj124 v6 I L → X E l rm_X10_layBest yX10_layBest cX10_layBest 11 none noX (ZM E rm_X10_layBest (Qv n R (V11 I0 L0 Q))) 124 [(0, .ref 336), (2, .int v2), (3, .int v3), (4, .int v4), (5, .int v5), (6, .int v6)] [] n I L R 0 0) (h : jn_X10_layBest_273 I L v2 v5 v6 v7 v9 s0 kj124) : X E l rm_X10_layBest yX10_layBest cX10_layBest 11 none noX (ZM E rm_X10_layBest (Qv n R (V11 I0 L0 Q))) 273 [(0, .ref 336), (2, .int v2), (3, .int v3), (4, .int v4), (5, .int v5), (6, .int v6), (7, .long v7), (9, .int v9)] [.int s0] n I L R 0 0 := by
  unfold jn_X10_layBest_273 at h
  refine x_istore (ls' := [(10, .int s0), (0, .ref 336), (2, .int v2), (3, .int v3), (4, .int v4), (5, .int v5), (6, .int v6), (7, .long v7), (9, .int v9)]) dX10_layBest_273 (Nat.le_of_ble_eq_true rfl) rfl ?_
  refine x_iload dX10_layBest_275 rfl ?_
  refine x_if_eq dX10_layBest_277 (tgt := 322) rfl ⟨fun c30 => ?_, fun c30 => ?_⟩
  · have h := h.1 c30
    refine x_ls (ls' := [(0, .ref 336), (2, .int v2), (3, .int v3), (4, .int v4), (5, .int v5), (6, .int v6)]) [1, 2, 3, 4, 5, 6] rfl ?_
    refine jnt_X10_layBest_322 hn hG (fun x31 I32 L33 h => ?_) h
    exact hJ124 x31 I32 L33 h
  · have h := h.2 c30
    refine x_aload_n dX10_layBest_280 rfl ?_
    refine x_getr (j := 345) dX10_layBest_281 fk_RX10_34 (km rfl hn) sh_336 (rt_336_19 hG) ?_
    refine x_bipush (v := 100) dX10_layBest_284 kb_100 ?_
    refine x_iload_n dX10_layBest_286 rfl ?_
    refine x_imul dX10_layBest_287 ?_
    refine x_iload dX10_layBest_288 rfl ?_
    refine x_iadd dX10_layBest_290 ?_
    refine x_lload dX10_layBest_291 rfl ?_
    obtain ⟨b34, h⟩ := h
    refine x_lastore dX10_layBest_293 (km rfl hn) sh_345 b34 (fun L35 eL35 => ?_)
    have h := h L35 eL35
    refine x_aload_n dX10_layBest_294 rfl ?_
    refine x_getr (j := 346) dX10_layBest_295 fk_RX10_38 (km rfl hn) sh_336 (rt_336_20 hG) ?_
    refine x_bipush (v := 100) dX10_layBest_298 kb_100 ?_
    refine x_iload_n dX10_layBest_300 rfl ?_
    refine x_imul dX10_layBest_301 ?_
    refine x_iload dX10_layBest_302 rfl ?_
    refine x_iadd dX10_layBest_304 ?_
    refine x_iload dX10_layBest_305 rfl ?_
    obtain ⟨b36, h⟩ := h
    refine x_iastore dX10_layBest_307 (km rfl hn) sh_346 b36 (fun I37 eI37 => ?_)
    have h := h I37 eI37
    refine x_aload_n dX10_layBest_308 rfl ?_
    refine x_getr (j := 347) dX10_layBest_309 fk_RX10_41 (km rfl hn) sh_336 (rt_336_21 hG) ?_
    refine x_bipush (v := 100) dX10_layBest_312 kb_100 ?_
    refine x_iload_n dX10_layBest_314 rfl ?_
    refine x_imul dX10_layBest_315 ?_
    refine x_iload dX10_layBest_316 rfl ?_
    refine x_iadd dX10_layBest_318 ?_
    refine x_iload dX10_layBest_319 rfl ?_
    obtain ⟨b38, h⟩ := h
    refine x_iastore dX10_layBest_321 (km rfl hn) sh_347 b38 (fun I39 eI39 => ?_)
    have h := h I39 eI39
    refine x_ls (ls' := [(0, .ref 336), (2, .int v2), (3, .int v3), (4, .int v4), (5, .int v5), (6, .int v6)]) [1, 2, 3, 4, 5, 6] rfl ?_
    refine jnt_X10_layBest_322 hn hG (fun x40 I41 L42 h => ?_) h
    exact hJ124 x40 I41 L42 h
def jn_X10_layBest_268 (I : MI) (L : ML) (v2 : Int32) (v5 : Int32) (v6 : Int32) (v7 : Int64) (v9 : Int32) (kj124 : Int32 → MI → ML → Prop) : Prop :=
    (jn_X10_layBest_273 I L v2 v5 v6 v7 v9 1 (fun x43 I44 L45 => kj124 x43 I44 L45))
set_option maxRecDepth 20000 in
theorem jnt_X10_layBest_268 {E : Ev} {l : Launch} {n : Nat} {R : MR} (hn : 349 ≤ n) (hG : GRm R) {I0 : MI} {L0 : ML} {Q : MI → ML → Prop} {I : MI} {L : ML} {v2 : Int32} {v3 : Int32} {v4 : Int32} {v5 : Int32} {v6 : Int32} {v7 : Int64} {v9 : Int32} {kj124 : Int32 → MI → ML → Prop}
    (hJ124 : ∀ (v6 : Int32) (I : MI) (L : ML), kj124 v6 I L → X E l rm_X10_layBest yX10_layBest cX10_layBest 11 none noX (ZM E rm_X10_layBest (Qv n R (V11 I0 L0 Q))) 124 [(0, .ref 336), (2, .int v2), (3, .int v3), (4, .int v4), (5, .int v5), (6, .int v6)] [] n I L R 0 0) (h : jn_X10_layBest_268 I L v2 v5 v6 v7 v9 kj124) : X E l rm_X10_layBest yX10_layBest cX10_layBest 11 none noX (ZM E rm_X10_layBest (Qv n R (V11 I0 L0 Q))) 268 [(0, .ref 336), (2, .int v2), (3, .int v3), (4, .int v4), (5, .int v5), (6, .int v6), (7, .long v7), (9, .int v9)] [] n I L R 0 0 := by
  unfold jn_X10_layBest_268 at h
  refine x_iconst (v := 1) dX10_layBest_268 ki_1 ?_
  refine x_goto dX10_layBest_269 (tgt := 273) rfl ?_
  refine jnt_X10_layBest_273 hn hG (fun x43 I44 L45 h => ?_) h
  exact hJ124 x43 I44 L45 h
def jn_X10_layBest_272 (I : MI) (L : ML) (v2 : Int32) (v5 : Int32) (v6 : Int32) (v7 : Int64) (v9 : Int32) (kj124 : Int32 → MI → ML → Prop) : Prop :=
    (jn_X10_layBest_273 I L v2 v5 v6 v7 v9 0 (fun x56 I57 L58 => kj124 x56 I57 L58))
set_option maxRecDepth 20000 in
theorem jnt_X10_layBest_272 {E : Ev} {l : Launch} {n : Nat} {R : MR} (hn : 349 ≤ n) (hG : GRm R) {I0 : MI} {L0 : ML} {Q : MI → ML → Prop} {I : MI} {L : ML} {v2 : Int32} {v3 : Int32} {v4 : Int32} {v5 : Int32} {v6 : Int32} {v7 : Int64} {v9 : Int32} {kj124 : Int32 → MI → ML → Prop}
    (hJ124 : ∀ (v6 : Int32) (I : MI) (L : ML), kj124 v6 I L → X E l rm_X10_layBest yX10_layBest cX10_layBest 11 none noX (ZM E rm_X10_layBest (Qv n R (V11 I0 L0 Q))) 124 [(0, .ref 336), (2, .int v2), (3, .int v3), (4, .int v4), (5, .int v5), (6, .int v6)] [] n I L R 0 0) (h : jn_X10_layBest_272 I L v2 v5 v6 v7 v9 kj124) : X E l rm_X10_layBest yX10_layBest cX10_layBest 11 none noX (ZM E rm_X10_layBest (Qv n R (V11 I0 L0 Q))) 272 [(0, .ref 336), (2, .int v2), (3, .int v3), (4, .int v4), (5, .int v5), (6, .int v6), (7, .long v7), (9, .int v9)] [] n I L R 0 0 := by
  unfold jn_X10_layBest_272 at h
  refine x_iconst (v := 0) dX10_layBest_272 ki_0 ?_
  refine jnt_X10_layBest_273 hn hG (fun x56 I57 L58 h => ?_) h
  exact hJ124 x56 I57 L58 h
def lp_X10_layBest_124 (v2 : Int32) (v3 : Int32) (v4 : Int32) (v5 : Int32) (kf328 : MI → ML → Prop) : Nat → Int32 → MI → ML → Prop
  | 0, _, _, _ => False
  | n + 1, v6, I, L =>
    ((10 ≤ v6 → kf328 I L) ∧ (¬ 10 ≤ v6 → ((v5 < (v6 * v4) → kf328 I L) ∧ (¬ v5 < (v6 * v4) → (wp_X10_lackOf I v3 v6 (fun x25 => ((vp_in (((100 * (v2 + 1)) + v5) - (v6 * v4)) 1000 ∧ (vp_in (((100 * (v2 + 1)) + v5) - (v6 * v4)) 1000 ∧ (vp_in ((100 * v2) + v5) 1000 ∧ (((I 347 (ix ((100 * v2) + v5))) = (-1) → (jn_X10_layBest_268 I L v2 v5 v6 (x25 + (L 345 (ix (((100 * (v2 + 1)) + v5) - (v6 * v4))))) ((v6 * v4) + (I 346 (ix (((100 * (v2 + 1)) + v5) - (v6 * v4))))) (fun x46 I47 L48 => (lp_X10_layBest_124 v2 v3 v4 v5 kf328 n x46 I47 L48)))) ∧ (¬ (I 347 (ix ((100 * v2) + v5))) = (-1) → (vp_in ((100 * v2) + v5) 1000 ∧ (((lg_cmp (x25 + (L 345 (ix (((100 * (v2 + 1)) + v5) - (v6 * v4))))) (L 345 (ix ((100 * v2) + v5)))) < 0 → (jn_X10_layBest_268 I L v2 v5 v6 (x25 + (L 345 (ix (((100 * (v2 + 1)) + v5) - (v6 * v4))))) ((v6 * v4) + (I 346 (ix (((100 * (v2 + 1)) + v5) - (v6 * v4))))) (fun x51 I52 L53 => (lp_X10_layBest_124 v2 v3 v4 v5 kf328 n x51 I52 L53)))) ∧ (¬ (lg_cmp (x25 + (L 345 (ix (((100 * (v2 + 1)) + v5) - (v6 * v4))))) (L 345 (ix ((100 * v2) + v5)))) < 0 → (vp_in ((100 * v2) + v5) 1000 ∧ ((¬ (lg_cmp (x25 + (L 345 (ix (((100 * (v2 + 1)) + v5) - (v6 * v4))))) (L 345 (ix ((100 * v2) + v5)))) = 0 → (jn_X10_layBest_272 I L v2 v5 v6 (x25 + (L 345 (ix (((100 * (v2 + 1)) + v5) - (v6 * v4))))) ((v6 * v4) + (I 346 (ix (((100 * (v2 + 1)) + v5) - (v6 * v4))))) (fun x59 I60 L61 => (lp_X10_layBest_124 v2 v3 v4 v5 kf328 n x59 I60 L61)))) ∧ ((lg_cmp (x25 + (L 345 (ix (((100 * (v2 + 1)) + v5) - (v6 * v4))))) (L 345 (ix ((100 * v2) + v5)))) = 0 → (vp_in ((100 * v2) + v5) 1000 ∧ (((I 346 (ix ((100 * v2) + v5))) ≤ ((v6 * v4) + (I 346 (ix (((100 * (v2 + 1)) + v5) - (v6 * v4))))) → (jn_X10_layBest_272 I L v2 v5 v6 (x25 + (L 345 (ix (((100 * (v2 + 1)) + v5) - (v6 * v4))))) ((v6 * v4) + (I 346 (ix (((100 * (v2 + 1)) + v5) - (v6 * v4))))) (fun x64 I65 L66 => (lp_X10_layBest_124 v2 v3 v4 v5 kf328 n x64 I65 L66)))) ∧ (¬ (I 346 (ix ((100 * v2) + v5))) ≤ ((v6 * v4) + (I 346 (ix (((100 * (v2 + 1)) + v5) - (v6 * v4))))) → (jn_X10_layBest_268 I L v2 v5 v6 (x25 + (L 345 (ix (((100 * (v2 + 1)) + v5) - (v6 * v4))))) ((v6 * v4) + (I 346 (ix (((100 * (v2 + 1)) + v5) - (v6 * v4))))) (fun x67 I68 L69 => (lp_X10_layBest_124 v2 v3 v4 v5 kf328 n x67 I68 L69))))))))))))))))))))))))
set_option maxRecDepth 20000 in
theorem lpt_X10_layBest_124 {E : Ev} {l : Launch} {n : Nat} {R : MR} (hn : 349 ≤ n) (hG : GRm R) {I0 : MI} {L0 : ML} {Q : MI → ML → Prop} {v2 : Int32} {v3 : Int32} {v4 : Int32} {v5 : Int32} {kf328 : MI → ML → Prop}
    (hK328 : ∀ (I : MI) (L : ML), kf328 I L → X E l rm_X10_layBest yX10_layBest cX10_layBest 11 none noX (ZM E rm_X10_layBest (Qv n R (V11 I0 L0 Q))) 328 [(0, .ref 336), (2, .int v2), (3, .int v3), (4, .int v4), (5, .int v5)] [] n I L R 0 0) : ∀ (N : Nat) (v6 : Int32) (I : MI) (L : ML), lp_X10_layBest_124 v2 v3 v4 v5 kf328 N v6 I L → X E l rm_X10_layBest yX10_layBest cX10_layBest 11 none noX (ZM E rm_X10_layBest (Qv n R (V11 I0 L0 Q))) 124 [(0, .ref 336), (2, .int v2), (3, .int v3), (4, .int v4), (5, .int v5), (6, .int v6)] [] n I L R 0 0 := by
  intro N
  induction N with
  | zero => intro v6 I L h; exact False.elim h
  | succ N ih =>
    intro v6 I L h
    unfold lp_X10_layBest_124 at h
    refine x_iload dX10_layBest_124 rfl ?_
    refine x_bipush (v := 10) dX10_layBest_126 kb_10 ?_
    refine x_icmp_ge dX10_layBest_128 (tgt := 328) rfl ⟨fun c23 => ?_, fun c23 => ?_⟩
    · have h := h.1 c23
      refine x_ls (ls' := [(0, .ref 336), (2, .int v2), (3, .int v3), (4, .int v4), (5, .int v5)]) [0, 1, 2, 3, 4] rfl ?_
      exact hK328 I L h
    · have h := h.2 c23
      refine x_iload dX10_layBest_131 rfl ?_
      refine x_iload dX10_layBest_133 rfl ?_
      refine x_imul dX10_layBest_135 ?_
      refine x_iload dX10_layBest_136 rfl ?_
      refine x_icmp_gt dX10_layBest_138 (tgt := 328) rfl ⟨fun c24 => ?_, fun c24 => ?_⟩
      · have h := h.1 c24
        refine x_ls (ls' := [(0, .ref 336), (2, .int v2), (3, .int v3), (4, .int v4), (5, .int v5)]) [0, 1, 2, 3, 4] rfl ?_
        exact hK328 I L h
      · have h := h.2 c24
        refine x_aload_n dX10_layBest_141 rfl ?_
        refine x_iload_n dX10_layBest_142 rfl ?_
        refine x_iload dX10_layBest_143 rfl ?_
        refine x_cVl00 [.int v3, .int v6] (mt_X10_lackOf hn hG h) dX10_layBest_145 lk_RX10_257 (km rfl hn) sh_336 rfl rfl (Nat.le_of_ble_eq_true rfl) (Rf_of rfl) (fun x25 h => ?_)
        refine x_aload_n dX10_layBest_148 rfl ?_
        refine x_getr (j := 345) dX10_layBest_149 fk_RX10_34 (km rfl hn) sh_336 (rt_336_19 hG) ?_
        refine x_bipush (v := 100) dX10_layBest_152 kb_100 ?_
        refine x_iload_n dX10_layBest_154 rfl ?_
        refine x_iconst (v := 1) dX10_layBest_155 ki_1 ?_
        refine x_iadd dX10_layBest_156 ?_
        refine x_imul dX10_layBest_157 ?_
        refine x_iload dX10_layBest_158 rfl ?_
        refine x_iadd dX10_layBest_160 ?_
        refine x_iload dX10_layBest_161 rfl ?_
        refine x_iload dX10_layBest_163 rfl ?_
        refine x_imul dX10_layBest_165 ?_
        refine x_isub dX10_layBest_166 ?_
        obtain ⟨b26, h⟩ := h
        refine x_laload dX10_layBest_167 (km rfl hn) sh_345 b26 ?_
        refine x_ladd dX10_layBest_168 ?_
        refine x_lstore (ls' := [(7, .long (x25 + (L 345 (ix (((100 * (v2 + 1)) + v5) - (v6 * v4)))))), (0, .ref 336), (2, .int v2), (3, .int v3), (4, .int v4), (5, .int v5), (6, .int v6)]) dX10_layBest_169 (Nat.le_of_ble_eq_true rfl) rfl ?_
        refine x_iload dX10_layBest_171 rfl ?_
        refine x_iload dX10_layBest_173 rfl ?_
        refine x_imul dX10_layBest_175 ?_
        refine x_aload_n dX10_layBest_176 rfl ?_
        refine x_getr (j := 346) dX10_layBest_177 fk_RX10_38 (km rfl hn) sh_336 (rt_336_20 hG) ?_
        refine x_bipush (v := 100) dX10_layBest_180 kb_100 ?_
        refine x_iload_n dX10_layBest_182 rfl ?_
        refine x_iconst (v := 1) dX10_layBest_183 ki_1 ?_
        refine x_iadd dX10_layBest_184 ?_
        refine x_imul dX10_layBest_185 ?_
        refine x_iload dX10_layBest_186 rfl ?_
        refine x_iadd dX10_layBest_188 ?_
        refine x_iload dX10_layBest_189 rfl ?_
        refine x_iload dX10_layBest_191 rfl ?_
        refine x_imul dX10_layBest_193 ?_
        refine x_isub dX10_layBest_194 ?_
        obtain ⟨b27, h⟩ := h
        refine x_iaload dX10_layBest_195 (km rfl hn) sh_346 b27 ?_
        refine x_iadd dX10_layBest_196 ?_
        refine x_istore (ls' := [(9, .int ((v6 * v4) + (I 346 (ix (((100 * (v2 + 1)) + v5) - (v6 * v4)))))), (7, .long (x25 + (L 345 (ix (((100 * (v2 + 1)) + v5) - (v6 * v4)))))), (0, .ref 336), (2, .int v2), (3, .int v3), (4, .int v4), (5, .int v5), (6, .int v6)]) dX10_layBest_197 (Nat.le_of_ble_eq_true rfl) rfl ?_
        refine x_aload_n dX10_layBest_199 rfl ?_
        refine x_getr (j := 347) dX10_layBest_200 fk_RX10_41 (km rfl hn) sh_336 (rt_336_21 hG) ?_
        refine x_bipush (v := 100) dX10_layBest_203 kb_100 ?_
        refine x_iload_n dX10_layBest_205 rfl ?_
        refine x_imul dX10_layBest_206 ?_
        refine x_iload dX10_layBest_207 rfl ?_
        refine x_iadd dX10_layBest_209 ?_
        obtain ⟨b28, h⟩ := h
        refine x_iaload dX10_layBest_210 (km rfl hn) sh_347 b28 ?_
        refine x_iconst (v := (-1)) dX10_layBest_211 ki_m1 ?_
        refine x_icmp_eq dX10_layBest_212 (tgt := 268) rfl ⟨fun c29 => ?_, fun c29 => ?_⟩
        · have h := h.1 c29
          refine x_ls (ls' := [(0, .ref 336), (2, .int v2), (3, .int v3), (4, .int v4), (5, .int v5), (6, .int v6), (7, .long (x25 + (L 345 (ix (((100 * (v2 + 1)) + v5) - (v6 * v4)))))), (9, .int ((v6 * v4) + (I 346 (ix (((100 * (v2 + 1)) + v5) - (v6 * v4))))))]) [2, 3, 4, 5, 6, 7, 1, 0] rfl ?_
          refine jnt_X10_layBest_268 hn hG (fun x46 I47 L48 h => ?_) h
          exact ih x46 I47 L48 h
        · have h := h.2 c29
          refine x_lload dX10_layBest_215 rfl ?_
          refine x_aload_n dX10_layBest_217 rfl ?_
          refine x_getr (j := 345) dX10_layBest_218 fk_RX10_34 (km rfl hn) sh_336 (rt_336_19 hG) ?_
          refine x_bipush (v := 100) dX10_layBest_221 kb_100 ?_
          refine x_iload_n dX10_layBest_223 rfl ?_
          refine x_imul dX10_layBest_224 ?_
          refine x_iload dX10_layBest_225 rfl ?_
          refine x_iadd dX10_layBest_227 ?_
          obtain ⟨b49, h⟩ := h
          refine x_laload dX10_layBest_228 (km rfl hn) sh_345 b49 ?_
          refine x_lcmp dX10_layBest_229 ?_
          refine x_if_lt dX10_layBest_230 (tgt := 268) rfl ⟨fun c50 => ?_, fun c50 => ?_⟩
          · have h := h.1 c50
            refine x_ls (ls' := [(0, .ref 336), (2, .int v2), (3, .int v3), (4, .int v4), (5, .int v5), (6, .int v6), (7, .long (x25 + (L 345 (ix (((100 * (v2 + 1)) + v5) - (v6 * v4)))))), (9, .int ((v6 * v4) + (I 346 (ix (((100 * (v2 + 1)) + v5) - (v6 * v4))))))]) [2, 3, 4, 5, 6, 7, 1, 0] rfl ?_
            refine jnt_X10_layBest_268 hn hG (fun x51 I52 L53 h => ?_) h
            exact ih x51 I52 L53 h
          · have h := h.2 c50
            refine x_lload dX10_layBest_233 rfl ?_
            refine x_aload_n dX10_layBest_235 rfl ?_
            refine x_getr (j := 345) dX10_layBest_236 fk_RX10_34 (km rfl hn) sh_336 (rt_336_19 hG) ?_
            refine x_bipush (v := 100) dX10_layBest_239 kb_100 ?_
            refine x_iload_n dX10_layBest_241 rfl ?_
            refine x_imul dX10_layBest_242 ?_
            refine x_iload dX10_layBest_243 rfl ?_
            refine x_iadd dX10_layBest_245 ?_
            obtain ⟨b54, h⟩ := h
            refine x_laload dX10_layBest_246 (km rfl hn) sh_345 b54 ?_
            refine x_lcmp dX10_layBest_247 ?_
            refine x_if_ne dX10_layBest_248 (tgt := 272) rfl ⟨fun c55 => ?_, fun c55 => ?_⟩
            · have h := h.1 c55
              refine x_ls (ls' := [(0, .ref 336), (2, .int v2), (3, .int v3), (4, .int v4), (5, .int v5), (6, .int v6), (7, .long (x25 + (L 345 (ix (((100 * (v2 + 1)) + v5) - (v6 * v4)))))), (9, .int ((v6 * v4) + (I 346 (ix (((100 * (v2 + 1)) + v5) - (v6 * v4))))))]) [2, 3, 4, 5, 6, 7, 1, 0] rfl ?_
              refine jnt_X10_layBest_272 hn hG (fun x59 I60 L61 h => ?_) h
              exact ih x59 I60 L61 h
            · have h := h.2 c55
              refine x_iload dX10_layBest_251 rfl ?_
              refine x_aload_n dX10_layBest_253 rfl ?_
              refine x_getr (j := 346) dX10_layBest_254 fk_RX10_38 (km rfl hn) sh_336 (rt_336_20 hG) ?_
              refine x_bipush (v := 100) dX10_layBest_257 kb_100 ?_
              refine x_iload_n dX10_layBest_259 rfl ?_
              refine x_imul dX10_layBest_260 ?_
              refine x_iload dX10_layBest_261 rfl ?_
              refine x_iadd dX10_layBest_263 ?_
              obtain ⟨b62, h⟩ := h
              refine x_iaload dX10_layBest_264 (km rfl hn) sh_346 b62 ?_
              refine x_icmp_ge dX10_layBest_265 (tgt := 272) rfl ⟨fun c63 => ?_, fun c63 => ?_⟩
              · have h := h.1 c63
                refine x_ls (ls' := [(0, .ref 336), (2, .int v2), (3, .int v3), (4, .int v4), (5, .int v5), (6, .int v6), (7, .long (x25 + (L 345 (ix (((100 * (v2 + 1)) + v5) - (v6 * v4)))))), (9, .int ((v6 * v4) + (I 346 (ix (((100 * (v2 + 1)) + v5) - (v6 * v4))))))]) [2, 3, 4, 5, 6, 7, 1, 0] rfl ?_
                refine jnt_X10_layBest_272 hn hG (fun x64 I65 L66 h => ?_) h
                exact ih x64 I65 L66 h
              · have h := h.2 c63
                refine x_ls (ls' := [(0, .ref 336), (2, .int v2), (3, .int v3), (4, .int v4), (5, .int v5), (6, .int v6), (7, .long (x25 + (L 345 (ix (((100 * (v2 + 1)) + v5) - (v6 * v4)))))), (9, .int ((v6 * v4) + (I 346 (ix (((100 * (v2 + 1)) + v5) - (v6 * v4))))))]) [2, 3, 4, 5, 6, 7, 1, 0] rfl ?_
                refine jnt_X10_layBest_268 hn hG (fun x67 I68 L69 h => ?_) h
                exact ih x67 I68 L69 h
def jn_X10_layBest_328 (I : MI) (L : ML) (v5 : Int32) (kj101 : Int32 → MI → ML → Prop) : Prop :=
    kj101 (v5 + 1) I L
set_option maxRecDepth 20000 in
theorem jnt_X10_layBest_328 {E : Ev} {l : Launch} {n : Nat} {R : MR} (hn : 349 ≤ n) (hG : GRm R) {I0 : MI} {L0 : ML} {Q : MI → ML → Prop} {I : MI} {L : ML} {v2 : Int32} {v3 : Int32} {v4 : Int32} {v5 : Int32} {kj101 : Int32 → MI → ML → Prop}
    (hJ101 : ∀ (v5 : Int32) (I : MI) (L : ML), kj101 v5 I L → X E l rm_X10_layBest yX10_layBest cX10_layBest 11 none noX (ZM E rm_X10_layBest (Qv n R (V11 I0 L0 Q))) 101 [(0, .ref 336), (2, .int v2), (3, .int v3), (4, .int v4), (5, .int v5)] [] n I L R 0 0) (h : jn_X10_layBest_328 I L v5 kj101) : X E l rm_X10_layBest yX10_layBest cX10_layBest 11 none noX (ZM E rm_X10_layBest (Qv n R (V11 I0 L0 Q))) 328 [(0, .ref 336), (2, .int v2), (3, .int v3), (4, .int v4), (5, .int v5)] [] n I L R 0 0 := by
  unfold jn_X10_layBest_328 at h
  refine x_iinc (v := v5 + 1) (ls' := [(5, .int (v5 + 1)), (0, .ref 336), (2, .int v2), (3, .int v3), (4, .int v4)]) dX10_layBest_328 rfl (congrArg (_ + ·) ki_1) (Nat.le_of_ble_eq_true rfl) rfl ?_
  refine x_goto dX10_layBest_331 (tgt := 101) rfl ?_
  refine x_ls (ls' := [(0, .ref 336), (2, .int v2), (3, .int v3), (4, .int v4), (5, .int (v5 + 1))]) [1, 2, 3, 4, 0] rfl ?_
  exact hJ101 (v5 + 1) I L h
def lp_X10_layBest_101 (v2 : Int32) (v3 : Int32) (v4 : Int32) (kf334 : MI → ML → Prop) : Nat → Int32 → MI → ML → Prop
  | 0, _, _, _ => False
  | n + 1, v5, I, L =>
    ((100 ≤ v5 → kf334 I L) ∧ (¬ 100 ≤ v5 → (vp_in ((100 * v2) + v5) 1000 ∧ (∀ I22, I22 = u2 I 347 (ix ((100 * v2) + v5)) (-1) → (∃ N70, lp_X10_layBest_124 v2 v3 v4 v5 (fun I71 L72 => (jn_X10_layBest_328 I71 L72 v5 (fun x73 I74 L75 => (lp_X10_layBest_101 v2 v3 v4 kf334 n x73 I74 L75)))) N70 0 I22 L)))))
set_option maxRecDepth 20000 in
theorem lpt_X10_layBest_101 {E : Ev} {l : Launch} {n : Nat} {R : MR} (hn : 349 ≤ n) (hG : GRm R) {I0 : MI} {L0 : ML} {Q : MI → ML → Prop} {v2 : Int32} {v3 : Int32} {v4 : Int32} {kf334 : MI → ML → Prop}
    (hK334 : ∀ (I : MI) (L : ML), kf334 I L → X E l rm_X10_layBest yX10_layBest cX10_layBest 11 none noX (ZM E rm_X10_layBest (Qv n R (V11 I0 L0 Q))) 334 [(0, .ref 336), (2, .int v2)] [] n I L R 0 0) : ∀ (N : Nat) (v5 : Int32) (I : MI) (L : ML), lp_X10_layBest_101 v2 v3 v4 kf334 N v5 I L → X E l rm_X10_layBest yX10_layBest cX10_layBest 11 none noX (ZM E rm_X10_layBest (Qv n R (V11 I0 L0 Q))) 101 [(0, .ref 336), (2, .int v2), (3, .int v3), (4, .int v4), (5, .int v5)] [] n I L R 0 0 := by
  intro N
  induction N with
  | zero => intro v5 I L h; exact False.elim h
  | succ N ih =>
    intro v5 I L h
    unfold lp_X10_layBest_101 at h
    refine x_iload dX10_layBest_101 rfl ?_
    refine x_bipush (v := 100) dX10_layBest_103 kb_100 ?_
    refine x_icmp_ge dX10_layBest_105 (tgt := 334) rfl ⟨fun c20 => ?_, fun c20 => ?_⟩
    · have h := h.1 c20
      refine x_ls (ls' := [(0, .ref 336), (2, .int v2)]) [0, 1] rfl ?_
      exact hK334 I L h
    · have h := h.2 c20
      refine x_aload_n dX10_layBest_108 rfl ?_
      refine x_getr (j := 347) dX10_layBest_109 fk_RX10_41 (km rfl hn) sh_336 (rt_336_21 hG) ?_
      refine x_bipush (v := 100) dX10_layBest_112 kb_100 ?_
      refine x_iload_n dX10_layBest_114 rfl ?_
      refine x_imul dX10_layBest_115 ?_
      refine x_iload dX10_layBest_116 rfl ?_
      refine x_iadd dX10_layBest_118 ?_
      refine x_iconst (v := (-1)) dX10_layBest_119 ki_m1 ?_
      obtain ⟨b21, h⟩ := h
      refine x_iastore dX10_layBest_120 (km rfl hn) sh_347 b21 (fun I22 eI22 => ?_)
      have h := h I22 eI22
      refine x_iconst (v := 0) dX10_layBest_121 ki_0 ?_
      refine x_istore (ls' := [(6, .int 0), (0, .ref 336), (2, .int v2), (3, .int v3), (4, .int v4), (5, .int v5)]) dX10_layBest_122 (Nat.le_of_ble_eq_true rfl) rfl ?_
      refine x_ls (ls' := [(0, .ref 336), (2, .int v2), (3, .int v3), (4, .int v4), (5, .int v5), (6, .int 0)]) [1, 2, 3, 4, 5, 0] rfl ?_
      obtain ⟨N70, h⟩ := h
      refine lpt_X10_layBest_124 hn hG (fun I71 L72 h => ?_) N70 0 I22 L h
      refine jnt_X10_layBest_328 hn hG (fun x73 I74 L75 h => ?_) h
      exact ih x73 I74 L75 h
def lp_X10_layBest_56 (Q : MI → ML → Prop) : Nat → Int32 → MI → ML → Prop
  | 0, _, _, _ => False
  | n + 1, v2, I, L =>
    ((v2 < 0 → Q I L) ∧ (¬ v2 < 0 → (vp_in 0 2212 ∧ (¬ (I 337 (ix 0)) = 0 ∧ (vp_in 0 2212 ∧ (¬ (I 337 (ix 0)) = 0 ∧ (wp_X10_cellOf (v2 / (I 337 (ix 0))) (v2 - v2 / (I 337 (ix 0)) * (I 337 (ix 0))) (fun x16 => ((vp_in 0 2212 ∧ (¬ (I 337 (ix 0)) = 0 ∧ (vp_in (20 + (v2 - v2 / (I 337 (ix 0)) * (I 337 (ix 0)))) 2212 ∧ (∃ N76, lp_X10_layBest_101 v2 x16 (I 337 (ix (20 + (v2 - v2 / (I 337 (ix 0)) * (I 337 (ix 0)))))) (fun I77 L78 => (lp_X10_layBest_56 Q n (v2 + (-1)) I77 L78)) N76 0 I L)))))))))))))
set_option maxRecDepth 20000 in
theorem lpt_X10_layBest_56 {E : Ev} {l : Launch} {n : Nat} {R : MR} (hn : 349 ≤ n) (hG : GRm R) {I0 : MI} {L0 : ML} {Q : MI → ML → Prop} : ∀ (N : Nat) (v2 : Int32) (I : MI) (L : ML), lp_X10_layBest_56 Q N v2 I L → X E l rm_X10_layBest yX10_layBest cX10_layBest 11 none noX (ZM E rm_X10_layBest (Qv n R (V11 I0 L0 Q))) 56 [(0, .ref 336), (2, .int v2)] [] n I L R 0 0 := by
  intro N
  induction N with
  | zero => intro v2 I L h; exact False.elim h
  | succ N ih =>
    intro v2 I L h
    unfold lp_X10_layBest_56 at h
    refine x_iload_n dX10_layBest_56 rfl ?_
    refine x_if_lt dX10_layBest_57 (tgt := 340) rfl ⟨fun c11 => ?_, fun c11 => ?_⟩
    · have h := h.1 c11
      exact x_return dX10_layBest_340 ⟨rfl, rfl, rfl, h⟩
    · have h := h.2 c11
      refine x_iload_n dX10_layBest_60 rfl ?_
      refine x_aload_n dX10_layBest_61 rfl ?_
      refine x_getr (j := 337) dX10_layBest_62 fk_RX10_7 (km rfl hn) sh_336 (rt_336_1 hG) ?_
      refine x_iconst (v := 0) dX10_layBest_65 ki_0 ?_
      obtain ⟨b12, h⟩ := h
      refine x_iaload dX10_layBest_66 (km rfl hn) sh_337 b12 ?_
      obtain ⟨b13, h⟩ := h
      refine x_idiv dX10_layBest_67 b13 ?_
      refine x_iload_n dX10_layBest_68 rfl ?_
      refine x_aload_n dX10_layBest_69 rfl ?_
      refine x_getr (j := 337) dX10_layBest_70 fk_RX10_7 (km rfl hn) sh_336 (rt_336_1 hG) ?_
      refine x_iconst (v := 0) dX10_layBest_73 ki_0 ?_
      obtain ⟨b14, h⟩ := h
      refine x_iaload dX10_layBest_74 (km rfl hn) sh_337 b14 ?_
      obtain ⟨b15, h⟩ := h
      refine x_irem dX10_layBest_75 b15 ?_
      refine x_cSi00 [.int (v2 / (I 337 (ix 0))), .int (v2 - v2 / (I 337 (ix 0)) * (I 337 (ix 0)))] (mt_X10_cellOf hn hG h) dX10_layBest_76 lk_RX10_104 rfl rfl (Nat.le_of_ble_eq_true rfl) (Rf_of rfl) (fun x16 h => ?_)
      refine x_istore_n (ls' := [(3, .int x16), (0, .ref 336), (2, .int v2)]) dX10_layBest_79 (Nat.le_of_ble_eq_true rfl) rfl ?_
      refine x_aload_n dX10_layBest_80 rfl ?_
      refine x_getr (j := 337) dX10_layBest_81 fk_RX10_7 (km rfl hn) sh_336 (rt_336_1 hG) ?_
      refine x_bipush (v := 20) dX10_layBest_84 kb_20 ?_
      refine x_iload_n dX10_layBest_86 rfl ?_
      refine x_aload_n dX10_layBest_87 rfl ?_
      refine x_getr (j := 337) dX10_layBest_88 fk_RX10_7 (km rfl hn) sh_336 (rt_336_1 hG) ?_
      refine x_iconst (v := 0) dX10_layBest_91 ki_0 ?_
      obtain ⟨b17, h⟩ := h
      refine x_iaload dX10_layBest_92 (km rfl hn) sh_337 b17 ?_
      obtain ⟨b18, h⟩ := h
      refine x_irem dX10_layBest_93 b18 ?_
      refine x_iadd dX10_layBest_94 ?_
      obtain ⟨b19, h⟩ := h
      refine x_iaload dX10_layBest_95 (km rfl hn) sh_337 b19 ?_
      refine x_istore (ls' := [(4, .int (I 337 (ix (20 + (v2 - v2 / (I 337 (ix 0)) * (I 337 (ix 0))))))), (3, .int x16), (0, .ref 336), (2, .int v2)]) dX10_layBest_96 (Nat.le_of_ble_eq_true rfl) rfl ?_
      refine x_iconst (v := 0) dX10_layBest_98 ki_0 ?_
      refine x_istore (ls' := [(5, .int 0), (4, .int (I 337 (ix (20 + (v2 - v2 / (I 337 (ix 0)) * (I 337 (ix 0))))))), (3, .int x16), (0, .ref 336), (2, .int v2)]) dX10_layBest_99 (Nat.le_of_ble_eq_true rfl) rfl ?_
      refine x_ls (ls' := [(0, .ref 336), (2, .int v2), (3, .int x16), (4, .int (I 337 (ix (20 + (v2 - v2 / (I 337 (ix 0)) * (I 337 (ix 0))))))), (5, .int 0)]) [3, 4, 2, 1, 0] rfl ?_
      obtain ⟨N76, h⟩ := h
      refine lpt_X10_layBest_101 hn hG (fun I77 L78 h => ?_) N76 0 I L h
      refine x_iinc (v := v2 + (-1)) (ls' := [(2, .int (v2 + (-1))), (0, .ref 336)]) dX10_layBest_334 rfl (congrArg (_ + ·) ki_m1) (Nat.le_of_ble_eq_true rfl) rfl ?_
      refine x_goto dX10_layBest_337 (tgt := 56) rfl ?_
      refine x_ls (ls' := [(0, .ref 336), (2, .int (v2 + (-1)))]) [1, 0] rfl ?_
      exact ih (v2 + (-1)) I77 L78 h
def wp_X10_layBest (I : MI) (L : ML) (Q : MI → ML → Prop) : Prop :=
    (vp_in 1 2212 ∧ (vp_in 0 2212 ∧ (∃ N8, lp_X10_layBest_16 ((I 337 (ix 1)) * (I 337 (ix 0))) (fun I9 L10 => (∃ N79, lp_X10_layBest_56 Q N79 (((I 337 (ix 1)) * (I 337 (ix 0))) - 1) I9 L10)) N8 0 I L)))
set_option maxRecDepth 20000 in
theorem mt_X10_layBest {E : Ev} {l : Launch} {n : Nat} {R : MR} (hn : 349 ≤ n) (hG : GRm R) {I : MI} {L : ML} {Q : MI → ML → Prop} (h : wp_X10_layBest I L Q) : MX E l rm_X10_layBest yX10_layBest cX10_layBest 11 none [.ref 336] n I L R (Qv n R (V11 I L Q)) := by
  refine MX_of (ls := [(0, .ref 336)]) (by decide) (Nat.le_of_ble_eq_true rfl) rfl ?_
  unfold wp_X10_layBest at h
  refine x_aload_n dX10_layBest_0 rfl ?_
  refine x_getr (j := 337) dX10_layBest_1 fk_RX10_7 (km rfl hn) sh_336 (rt_336_1 hG) ?_
  refine x_iconst (v := 1) dX10_layBest_4 ki_1 ?_
  obtain ⟨b1, h⟩ := h
  refine x_iaload dX10_layBest_5 (km rfl hn) sh_337 b1 ?_
  refine x_aload_n dX10_layBest_6 rfl ?_
  refine x_getr (j := 337) dX10_layBest_7 fk_RX10_7 (km rfl hn) sh_336 (rt_336_1 hG) ?_
  refine x_iconst (v := 0) dX10_layBest_10 ki_0 ?_
  obtain ⟨b2, h⟩ := h
  refine x_iaload dX10_layBest_11 (km rfl hn) sh_337 b2 ?_
  refine x_imul dX10_layBest_12 ?_
  refine x_istore_n (ls' := [(1, .int ((I 337 (ix 1)) * (I 337 (ix 0)))), (0, .ref 336)]) dX10_layBest_13 (Nat.le_of_ble_eq_true rfl) rfl ?_
  refine x_iconst (v := 0) dX10_layBest_14 ki_0 ?_
  refine x_istore_n (ls' := [(2, .int 0), (1, .int ((I 337 (ix 1)) * (I 337 (ix 0)))), (0, .ref 336)]) dX10_layBest_15 (Nat.le_of_ble_eq_true rfl) rfl ?_
  refine x_ls (ls' := [(0, .ref 336), (1, .int ((I 337 (ix 1)) * (I 337 (ix 0)))), (2, .int 0)]) [2, 1, 0] rfl ?_
  obtain ⟨N8, h⟩ := h
  refine lpt_X10_layBest_16 hn hG (fun I9 L10 h => ?_) N8 0 I L h
  refine x_iload_n dX10_layBest_52 rfl ?_
  refine x_iconst (v := 1) dX10_layBest_53 ki_1 ?_
  refine x_isub dX10_layBest_54 ?_
  refine x_istore_n (ls' := [(2, .int (((I 337 (ix 1)) * (I 337 (ix 0))) - 1)), (0, .ref 336), (1, .int ((I 337 (ix 1)) * (I 337 (ix 0))))]) dX10_layBest_55 (Nat.le_of_ble_eq_true rfl) rfl ?_
  refine x_ls (ls' := [(0, .ref 336), (2, .int (((I 337 (ix 1)) * (I 337 (ix 0))) - 1))]) [1, 0] rfl ?_
  obtain ⟨N79, h⟩ := h
  exact lpt_X10_layBest_56 hn hG  N79 (((I 337 (ix 1)) * (I 337 (ix 0))) - 1) I9 L10 h
abbrev rm_X10_best : Room := { frames := 4, cells := 0, slots := 0, locals := 106 }
def lp_X10_best_43 (I : MI) (v5 : Int32) (kf92 : Int32 → Prop) : Nat → Int32 → Int32 → Prop
  | 0, _, _ => False
  | n + 1, v4, v6 =>
    ((v5 ≤ v6 → kf92 v4) ∧ (¬ v5 ≤ v6 → (vp_in ((100 * v6) + v4) 1000 ∧ (vp_in 0 2212 ∧ (¬ (I 337 (ix 0)) = 0 ∧ (vp_in (20 + (v6 - v6 / (I 337 (ix 0)) * (I 337 (ix 0)))) 2212 ∧ (lp_X10_best_43 I v5 kf92 n (v4 - ((I 347 (ix ((100 * v6) + v4))) * (I 337 (ix (20 + (v6 - v6 / (I 337 (ix 0)) * (I 337 (ix 0)))))))) (v6 + 1))))))))
set_option maxRecDepth 20000 in
theorem lpt_X10_best_43 {E : Ev} {l : Launch} {n : Nat} {R : MR} (hn : 349 ≤ n) (hG : GRm R) {I0 : MI} {L0 : ML} {Q : Int32 → MI → ML → Prop} {I : MI} {L : ML} {v5 : Int32} {kf92 : Int32 → Prop}
    (hK92 : ∀ (v4 : Int32), kf92 v4 → X E l rm_X10_best yX10_best cX10_best 7 (some .int) noX (ZM E rm_X10_best (Qi n R (P11 I0 L0 Q))) 92 [(0, .ref 336), (4, .int v4), (5, .int v5)] [] n I L R 0 0) : ∀ (N : Nat) (v4 : Int32) (v6 : Int32), lp_X10_best_43 I v5 kf92 N v4 v6 → X E l rm_X10_best yX10_best cX10_best 7 (some .int) noX (ZM E rm_X10_best (Qi n R (P11 I0 L0 Q))) 43 [(0, .ref 336), (4, .int v4), (5, .int v5), (6, .int v6)] [] n I L R 0 0 := by
  intro N
  induction N with
  | zero => intro v4 v6 h; exact False.elim h
  | succ N ih =>
    intro v4 v6 h
    unfold lp_X10_best_43 at h
    refine x_iload dX10_best_43 rfl ?_
    refine x_iload dX10_best_45 rfl ?_
    refine x_icmp_ge dX10_best_47 (tgt := 92) rfl ⟨fun c8 => ?_, fun c8 => ?_⟩
    · have h := h.1 c8
      refine x_ls (ls' := [(0, .ref 336), (4, .int v4), (5, .int v5)]) [0, 1, 2] rfl ?_
      exact hK92 v4 h
    · have h := h.2 c8
      refine x_iload dX10_best_50 rfl ?_
      refine x_aload_n dX10_best_52 rfl ?_
      refine x_getr (j := 347) dX10_best_53 fk_RX10_41 (km rfl hn) sh_336 (rt_336_21 hG) ?_
      refine x_bipush (v := 100) dX10_best_56 kb_100 ?_
      refine x_iload dX10_best_58 rfl ?_
      refine x_imul dX10_best_60 ?_
      refine x_iload dX10_best_61 rfl ?_
      refine x_iadd dX10_best_63 ?_
      obtain ⟨b9, h⟩ := h
      refine x_iaload dX10_best_64 (km rfl hn) sh_347 b9 ?_
      refine x_aload_n dX10_best_65 rfl ?_
      refine x_getr (j := 337) dX10_best_66 fk_RX10_7 (km rfl hn) sh_336 (rt_336_1 hG) ?_
      refine x_bipush (v := 20) dX10_best_69 kb_20 ?_
      refine x_iload dX10_best_71 rfl ?_
      refine x_aload_n dX10_best_73 rfl ?_
      refine x_getr (j := 337) dX10_best_74 fk_RX10_7 (km rfl hn) sh_336 (rt_336_1 hG) ?_
      refine x_iconst (v := 0) dX10_best_77 ki_0 ?_
      obtain ⟨b10, h⟩ := h
      refine x_iaload dX10_best_78 (km rfl hn) sh_337 b10 ?_
      obtain ⟨b11, h⟩ := h
      refine x_irem dX10_best_79 b11 ?_
      refine x_iadd dX10_best_80 ?_
      obtain ⟨b12, h⟩ := h
      refine x_iaload dX10_best_81 (km rfl hn) sh_337 b12 ?_
      refine x_imul dX10_best_82 ?_
      refine x_isub dX10_best_83 ?_
      refine x_istore (ls' := [(4, .int (v4 - ((I 347 (ix ((100 * v6) + v4))) * (I 337 (ix (20 + (v6 - v6 / (I 337 (ix 0)) * (I 337 (ix 0))))))))), (0, .ref 336), (5, .int v5), (6, .int v6)]) dX10_best_84 (Nat.le_of_ble_eq_true rfl) rfl ?_
      refine x_iinc (v := v6 + 1) (ls' := [(6, .int (v6 + 1)), (4, .int (v4 - ((I 347 (ix ((100 * v6) + v4))) * (I 337 (ix (20 + (v6 - v6 / (I 337 (ix 0)) * (I 337 (ix 0))))))))), (0, .ref 336), (5, .int v5)]) dX10_best_86 rfl (congrArg (_ + ·) ki_1) (Nat.le_of_ble_eq_true rfl) rfl ?_
      refine x_goto dX10_best_89 (tgt := 43) rfl ?_
      refine x_ls (ls' := [(0, .ref 336), (4, .int (v4 - ((I 347 (ix ((100 * v6) + v4))) * (I 337 (ix (20 + (v6 - v6 / (I 337 (ix 0)) * (I 337 (ix 0))))))))), (5, .int v5), (6, .int (v6 + 1))]) [2, 1, 3, 0] rfl ?_
      exact ih (v4 - ((I 347 (ix ((100 * v6) + v4))) * (I 337 (ix (20 + (v6 - v6 / (I 337 (ix 0)) * (I 337 (ix 0)))))))) (v6 + 1) h
def wp_X10_best (I : MI) (L : ML) (v1 : Int32) (v2 : Int32) (v3 : Int32) (Q : Int32 → MI → ML → Prop) : Prop :=
    (wp_X10_isIn v1 0 99 (fun x1 => (((x1 = 0 → Q (-1) I L) ∧ (¬ x1 = 0 → (wp_X10_isCell I v2 v3 (fun x3 => (((¬ x3 = 0 → (wp_X10_layBest I L (fun I5 L6 => ((vp_in 0 2212 ∧ (∃ N13, lp_X10_best_43 I5 ((v2 * (I5 337 (ix 0))) + v3) (fun x14 => (vp_in ((100 * ((v2 * (I5 337 (ix 0))) + v3)) + x14) 1000 ∧ Q (I5 347 (ix ((100 * ((v2 * (I5 337 (ix 0))) + v3)) + x14))) I5 L6)) N13 v1 0)))))) ∧ (x3 = 0 → Q (-1) I L))))))))))
set_option maxRecDepth 20000 in
theorem mt_X10_best {E : Ev} {l : Launch} {n : Nat} {R : MR} (hn : 349 ≤ n) (hG : GRm R) {I : MI} {L : ML} {v1 : Int32} {v2 : Int32} {v3 : Int32} {Q : Int32 → MI → ML → Prop} (h : wp_X10_best I L v1 v2 v3 Q) : MX E l rm_X10_best yX10_best cX10_best 7 (some .int) [.ref 336, .int v1, .int v2, .int v3] n I L R (Qi n R (P11 I L Q)) := by
  refine MX_of (ls := [(0, .ref 336), (1, .int v1), (2, .int v2), (3, .int v3)]) (by decide) (Nat.le_of_ble_eq_true rfl) rfl ?_
  unfold wp_X10_best at h
  refine x_iload_n dX10_best_0 rfl ?_
  refine x_iconst (v := 0) dX10_best_1 ki_0 ?_
  refine x_bipush (v := 99) dX10_best_2 kb_99 ?_
  refine x_cSi00 [.int v1, .int 0, .int 99] (mt_X10_isIn hn hG h) dX10_best_4 lk_RX10_51 rfl rfl (Nat.le_of_ble_eq_true rfl) (Rf_of rfl) (fun x1 h => ?_)
  refine x_if_eq dX10_best_7 (tgt := 19) rfl ⟨fun c2 => ?_, fun c2 => ?_⟩
  · have h := h.1 c2
    refine x_iconst (v := (-1)) dX10_best_19 ki_m1 ?_
    exact x_ireturn dX10_best_20 ⟨_, rfl, rfl, rfl, h⟩
  · have h := h.2 c2
    refine x_aload_n dX10_best_10 rfl ?_
    refine x_iload_n dX10_best_11 rfl ?_
    refine x_iload_n dX10_best_12 rfl ?_
    refine x_cVi00 [.int v2, .int v3] (mt_X10_isCell hn hG h) dX10_best_13 lk_RX10_211 (km rfl hn) sh_336 rfl rfl (Nat.le_of_ble_eq_true rfl) (Rf_of rfl) (fun x3 h => ?_)
    refine x_if_ne dX10_best_16 (tgt := 21) rfl ⟨fun c4 => ?_, fun c4 => ?_⟩
    · have h := h.1 c4
      refine x_aload_n dX10_best_21 rfl ?_
      refine x_cVv11 [] (mt_X10_layBest hn hG h) dX10_best_22 lk_RX10_284 (km rfl hn) sh_336 rfl rfl (Nat.le_of_ble_eq_true rfl) (Rf_of rfl) (fun I5 L6 h => ?_)
      refine x_iload_n dX10_best_25 rfl ?_
      refine x_istore (ls' := [(4, .int v1), (0, .ref 336), (1, .int v1), (2, .int v2), (3, .int v3)]) dX10_best_26 (Nat.le_of_ble_eq_true rfl) rfl ?_
      refine x_iload_n dX10_best_28 rfl ?_
      refine x_aload_n dX10_best_29 rfl ?_
      refine x_getr (j := 337) dX10_best_30 fk_RX10_7 (km rfl hn) sh_336 (rt_336_1 hG) ?_
      refine x_iconst (v := 0) dX10_best_33 ki_0 ?_
      obtain ⟨b7, h⟩ := h
      refine x_iaload dX10_best_34 (km rfl hn) sh_337 b7 ?_
      refine x_imul dX10_best_35 ?_
      refine x_iload_n dX10_best_36 rfl ?_
      refine x_iadd dX10_best_37 ?_
      refine x_istore (ls' := [(5, .int ((v2 * (I5 337 (ix 0))) + v3)), (4, .int v1), (0, .ref 336), (1, .int v1), (2, .int v2), (3, .int v3)]) dX10_best_38 (Nat.le_of_ble_eq_true rfl) rfl ?_
      refine x_iconst (v := 0) dX10_best_40 ki_0 ?_
      refine x_istore (ls' := [(6, .int 0), (5, .int ((v2 * (I5 337 (ix 0))) + v3)), (4, .int v1), (0, .ref 336), (1, .int v1), (2, .int v2), (3, .int v3)]) dX10_best_41 (Nat.le_of_ble_eq_true rfl) rfl ?_
      refine x_ls (ls' := [(0, .ref 336), (4, .int v1), (5, .int ((v2 * (I5 337 (ix 0))) + v3)), (6, .int 0)]) [3, 2, 1, 0] rfl ?_
      obtain ⟨N13, h⟩ := h
      refine lpt_X10_best_43 hn hG (fun x14 h => ?_) N13 v1 0 h
      refine x_aload_n dX10_best_92 rfl ?_
      refine x_getr (j := 347) dX10_best_93 fk_RX10_41 (km rfl hn) sh_336 (rt_336_21 hG) ?_
      refine x_bipush (v := 100) dX10_best_96 kb_100 ?_
      refine x_iload dX10_best_98 rfl ?_
      refine x_imul dX10_best_100 ?_
      refine x_iload dX10_best_101 rfl ?_
      refine x_iadd dX10_best_103 ?_
      obtain ⟨b15, h⟩ := h
      refine x_iaload dX10_best_104 (km rfl hn) sh_347 b15 ?_
      exact x_ireturn dX10_best_105 ⟨_, rfl, rfl, rfl, h⟩
    · have h := h.2 c4
      refine x_iconst (v := (-1)) dX10_best_19 ki_m1 ?_
      exact x_ireturn dX10_best_20 ⟨_, rfl, rfl, rfl, h⟩
abbrev rm_X10_gainOf : Room := { frames := 3, cells := 0, slots := 0, locals := 76 }
def wp_X10_gainOf (I : MI) (v1 : Int32) (Q : Int64 → Prop) : Prop :=
    (vp_in v1 9 ∧ (wp_X10_lackOf I v1 (I 344 (ix v1)) (fun x2 => ((vp_in v1 9 ∧ (wp_X10_lackOf I v1 ((I 344 (ix v1)) + 1) (fun x4 => (Q (x2 - x4)))))))))
set_option maxRecDepth 20000 in
theorem mt_X10_gainOf {E : Ev} {l : Launch} {n : Nat} {R : MR} (hn : 349 ≤ n) (hG : GRm R) {I : MI} {L : ML} {v1 : Int32} {Q : Int64 → Prop} (h : wp_X10_gainOf I v1 Q) : MX E l rm_X10_gainOf yX10_gainOf cX10_gainOf 2 (some .long) [.ref 336, .int v1] n I L R (Ql n R (P00 I L Q)) := by
  refine MX_of (ls := [(0, .ref 336), (1, .int v1)]) (by decide) (Nat.le_of_ble_eq_true rfl) rfl ?_
  unfold wp_X10_gainOf at h
  refine x_aload_n dX10_gainOf_0 rfl ?_
  refine x_iload_n dX10_gainOf_1 rfl ?_
  refine x_aload_n dX10_gainOf_2 rfl ?_
  refine x_getr (j := 344) dX10_gainOf_3 fk_RX10_31 (km rfl hn) sh_336 (rt_336_17 hG) ?_
  refine x_iload_n dX10_gainOf_6 rfl ?_
  obtain ⟨b1, h⟩ := h
  refine x_iaload dX10_gainOf_7 (km rfl hn) sh_344 b1 ?_
  refine x_cVl00 [.int v1, .int (I 344 (ix v1))] (mt_X10_lackOf hn hG h) dX10_gainOf_8 lk_RX10_257 (km rfl hn) sh_336 rfl rfl (Nat.le_of_ble_eq_true rfl) (Rf_of rfl) (fun x2 h => ?_)
  refine x_aload_n dX10_gainOf_11 rfl ?_
  refine x_iload_n dX10_gainOf_12 rfl ?_
  refine x_aload_n dX10_gainOf_13 rfl ?_
  refine x_getr (j := 344) dX10_gainOf_14 fk_RX10_31 (km rfl hn) sh_336 (rt_336_17 hG) ?_
  refine x_iload_n dX10_gainOf_17 rfl ?_
  obtain ⟨b3, h⟩ := h
  refine x_iaload dX10_gainOf_18 (km rfl hn) sh_344 b3 ?_
  refine x_iconst (v := 1) dX10_gainOf_19 ki_1 ?_
  refine x_iadd dX10_gainOf_20 ?_
  refine x_cVl00 [.int v1, .int ((I 344 (ix v1)) + 1)] (mt_X10_lackOf hn hG h) dX10_gainOf_21 lk_RX10_257 (km rfl hn) sh_336 rfl rfl (Nat.le_of_ble_eq_true rfl) (Rf_of rfl) (fun x4 h => ?_)
  refine x_lsub dX10_gainOf_24 ?_
  exact x_lreturn dX10_gainOf_25 ⟨_, rfl, rfl, rfl, rfl, rfl, h⟩
abbrev rm_X10_nextBuy : Room := { frames := 4, cells := 0, slots := 0, locals := 97 }
def jn_X10_nextBuy_106 (v1 : Int32) (v3 : Int32) (kj16 : Int32 → Int32 → Prop) : Prop :=
    kj16 v1 (v3 + 1)
set_option maxRecDepth 20000 in
theorem jnt_X10_nextBuy_106 {E : Ev} {l : Launch} {n : Nat} {R : MR} (hn : 349 ≤ n) (hG : GRm R) {Q : Int32 → Prop} {I : MI} {L : ML} {v1 : Int32} {v2 : Int32} {v3 : Int32} {kj16 : Int32 → Int32 → Prop}
    (hJ16 : ∀ (v1 : Int32) (v3 : Int32), kj16 v1 v3 → X E l rm_X10_nextBuy yX10_nextBuy cX10_nextBuy 5 (some .int) noX (ZM E rm_X10_nextBuy (Qi n R (P00 I L Q))) 16 [(0, .ref 336), (1, .int v1), (2, .int v2), (3, .int v3)] [] n I L R 0 0) (h : jn_X10_nextBuy_106 v1 v3 kj16) : X E l rm_X10_nextBuy yX10_nextBuy cX10_nextBuy 5 (some .int) noX (ZM E rm_X10_nextBuy (Qi n R (P00 I L Q))) 106 [(0, .ref 336), (1, .int v1), (2, .int v2), (3, .int v3)] [] n I L R 0 0 := by
  unfold jn_X10_nextBuy_106 at h
  refine x_iinc (v := v3 + 1) (ls' := [(3, .int (v3 + 1)), (0, .ref 336), (1, .int v1), (2, .int v2)]) dX10_nextBuy_106 rfl (congrArg (_ + ·) ki_1) (Nat.le_of_ble_eq_true rfl) rfl ?_
  refine x_goto dX10_nextBuy_109 (tgt := 16) rfl ?_
  refine x_ls (ls' := [(0, .ref 336), (1, .int v1), (2, .int v2), (3, .int (v3 + 1))]) [1, 2, 3, 0] rfl ?_
  exact hJ16 v1 (v3 + 1) h
def jn_X10_nextBuy_103 (v3 : Int32) (v4 : Int32) (kj16 : Int32 → Int32 → Prop) : Prop :=
    (jn_X10_nextBuy_106 v4 v3 (fun x13 x14 => kj16 x13 x14))
set_option maxRecDepth 20000 in
theorem jnt_X10_nextBuy_103 {E : Ev} {l : Launch} {n : Nat} {R : MR} (hn : 349 ≤ n) (hG : GRm R) {Q : Int32 → Prop} {I : MI} {L : ML} {v2 : Int32} {v3 : Int32} {v4 : Int32} {kj16 : Int32 → Int32 → Prop}
    (hJ16 : ∀ (v1 : Int32) (v3 : Int32), kj16 v1 v3 → X E l rm_X10_nextBuy yX10_nextBuy cX10_nextBuy 5 (some .int) noX (ZM E rm_X10_nextBuy (Qi n R (P00 I L Q))) 16 [(0, .ref 336), (1, .int v1), (2, .int v2), (3, .int v3)] [] n I L R 0 0) (h : jn_X10_nextBuy_103 v3 v4 kj16) : X E l rm_X10_nextBuy yX10_nextBuy cX10_nextBuy 5 (some .int) noX (ZM E rm_X10_nextBuy (Qi n R (P00 I L Q))) 103 [(0, .ref 336), (2, .int v2), (3, .int v3), (4, .int v4)] [] n I L R 0 0 := by
  unfold jn_X10_nextBuy_103 at h
  refine x_iload dX10_nextBuy_103 rfl ?_
  refine x_istore_n (ls' := [(1, .int v4), (0, .ref 336), (2, .int v2), (3, .int v3), (4, .int v4)]) dX10_nextBuy_105 (Nat.le_of_ble_eq_true rfl) rfl ?_
  refine x_ls (ls' := [(0, .ref 336), (1, .int v4), (2, .int v2), (3, .int v3)]) [1, 0, 2, 3] rfl ?_
  refine jnt_X10_nextBuy_106 hn hG (fun x13 x14 h => ?_) h
  exact hJ16 x13 x14 h
def lp_X10_nextBuy_16 (I : MI) (v2 : Int32) (kf112 : Int32 → Prop) : Nat → Int32 → Int32 → Prop
  | 0, _, _ => False
  | n + 1, v1, v3 =>
    (vp_in 0 2212 ∧ (((I 337 (ix 0)) ≤ v3 → kf112 v1) ∧ (¬ (I 337 (ix 0)) ≤ v3 → (wp_X10_cellOf v2 v3 (fun x5 => ((vp_in x5 9 ∧ (((I 344 (ix x5)) = 9 → (jn_X10_nextBuy_106 v1 v3 (fun x8 x9 => (lp_X10_nextBuy_16 I v2 kf112 n x8 x9)))) ∧ (¬ (I 344 (ix x5)) = 9 → (wp_X10_gainOf I x5 (fun x10 => (((¬ (lg_cmp x10 0) = 0 → ((v1 = (-1) → (jn_X10_nextBuy_103 v3 x5 (fun x15 x16 => (lp_X10_nextBuy_16 I v2 kf112 n x15 x16)))) ∧ (¬ v1 = (-1) → (wp_X10_gainOf I x5 (fun x17 => ((vp_in (20 + (v1 - v1 / 3 * 3)) 2212 ∧ (wp_X10_gainOf I v1 (fun x19 => ((vp_in (20 + v3) 2212 ∧ (((lg_cmp (x17 * ((I 337 (ix (20 + (v1 - v1 / 3 * 3)))).toInt64)) (x19 * ((I 337 (ix (20 + v3))).toInt64))) ≤ 0 → (jn_X10_nextBuy_106 v1 v3 (fun x22 x23 => (lp_X10_nextBuy_16 I v2 kf112 n x22 x23)))) ∧ (¬ (lg_cmp (x17 * ((I 337 (ix (20 + (v1 - v1 / 3 * 3)))).toInt64)) (x19 * ((I 337 (ix (20 + v3))).toInt64))) ≤ 0 → (jn_X10_nextBuy_103 v3 x5 (fun x24 x25 => (lp_X10_nextBuy_16 I v2 kf112 n x24 x25)))))))))))))))) ∧ ((lg_cmp x10 0) = 0 → (jn_X10_nextBuy_106 v1 v3 (fun x26 x27 => (lp_X10_nextBuy_16 I v2 kf112 n x26 x27)))))))))))))))))
set_option maxRecDepth 20000 in
theorem lpt_X10_nextBuy_16 {E : Ev} {l : Launch} {n : Nat} {R : MR} (hn : 349 ≤ n) (hG : GRm R) {Q : Int32 → Prop} {v2 : Int32} {I : MI} {L : ML} {kf112 : Int32 → Prop}
    (hK112 : ∀ (v1 : Int32), kf112 v1 → X E l rm_X10_nextBuy yX10_nextBuy cX10_nextBuy 5 (some .int) noX (ZM E rm_X10_nextBuy (Qi n R (P00 I L Q))) 112 [(0, .ref 336), (1, .int v1), (2, .int v2)] [] n I L R 0 0) : ∀ (N : Nat) (v1 : Int32) (v3 : Int32), lp_X10_nextBuy_16 I v2 kf112 N v1 v3 → X E l rm_X10_nextBuy yX10_nextBuy cX10_nextBuy 5 (some .int) noX (ZM E rm_X10_nextBuy (Qi n R (P00 I L Q))) 16 [(0, .ref 336), (1, .int v1), (2, .int v2), (3, .int v3)] [] n I L R 0 0 := by
  intro N
  induction N with
  | zero => intro v1 v3 h; exact False.elim h
  | succ N ih =>
    intro v1 v3 h
    unfold lp_X10_nextBuy_16 at h
    refine x_iload_n dX10_nextBuy_16 rfl ?_
    refine x_aload_n dX10_nextBuy_17 rfl ?_
    refine x_getr (j := 337) dX10_nextBuy_18 fk_RX10_7 (km rfl hn) sh_336 (rt_336_1 hG) ?_
    refine x_iconst (v := 0) dX10_nextBuy_21 ki_0 ?_
    obtain ⟨b3, h⟩ := h
    refine x_iaload dX10_nextBuy_22 (km rfl hn) sh_337 b3 ?_
    refine x_icmp_ge dX10_nextBuy_23 (tgt := 112) rfl ⟨fun c4 => ?_, fun c4 => ?_⟩
    · have h := h.1 c4
      refine x_ls (ls' := [(0, .ref 336), (1, .int v1), (2, .int v2)]) [0, 1, 2] rfl ?_
      exact hK112 v1 h
    · have h := h.2 c4
      refine x_iload_n dX10_nextBuy_26 rfl ?_
      refine x_iload_n dX10_nextBuy_27 rfl ?_
      refine x_cSi00 [.int v2, .int v3] (mt_X10_cellOf hn hG h) dX10_nextBuy_28 lk_RX10_104 rfl rfl (Nat.le_of_ble_eq_true rfl) (Rf_of rfl) (fun x5 h => ?_)
      refine x_istore (ls' := [(4, .int x5), (0, .ref 336), (1, .int v1), (2, .int v2), (3, .int v3)]) dX10_nextBuy_31 (Nat.le_of_ble_eq_true rfl) rfl ?_
      refine x_aload_n dX10_nextBuy_33 rfl ?_
      refine x_getr (j := 344) dX10_nextBuy_34 fk_RX10_31 (km rfl hn) sh_336 (rt_336_17 hG) ?_
      refine x_iload dX10_nextBuy_37 rfl ?_
      obtain ⟨b6, h⟩ := h
      refine x_iaload dX10_nextBuy_39 (km rfl hn) sh_344 b6 ?_
      refine x_bipush (v := 9) dX10_nextBuy_40 kb_9 ?_
      refine x_icmp_eq dX10_nextBuy_42 (tgt := 106) rfl ⟨fun c7 => ?_, fun c7 => ?_⟩
      · have h := h.1 c7
        refine x_ls (ls' := [(0, .ref 336), (1, .int v1), (2, .int v2), (3, .int v3)]) [1, 2, 3, 4] rfl ?_
        refine jnt_X10_nextBuy_106 hn hG (fun x8 x9 h => ?_) h
        exact ih x8 x9 h
      · have h := h.2 c7
        refine x_aload_n dX10_nextBuy_45 rfl ?_
        refine x_iload dX10_nextBuy_46 rfl ?_
        refine x_cVl00 [.int x5] (mt_X10_gainOf hn hG h) dX10_nextBuy_48 lk_RX10_268 (km rfl hn) sh_336 rfl rfl (Nat.le_of_ble_eq_true rfl) (Rf_of rfl) (fun x10 h => ?_)
        refine x_lconst (v := 0) dX10_nextBuy_51 rfl ?_
        refine x_lcmp dX10_nextBuy_52 ?_
        refine x_if_ne dX10_nextBuy_53 (tgt := 59) rfl ⟨fun c11 => ?_, fun c11 => ?_⟩
        · have h := h.1 c11
          refine x_iload_n dX10_nextBuy_59 rfl ?_
          refine x_iconst (v := (-1)) dX10_nextBuy_60 ki_m1 ?_
          refine x_icmp_eq dX10_nextBuy_61 (tgt := 103) rfl ⟨fun c12 => ?_, fun c12 => ?_⟩
          · have h := h.1 c12
            refine x_ls (ls' := [(0, .ref 336), (2, .int v2), (3, .int v3), (4, .int x5)]) [1, 3, 4, 0] rfl ?_
            refine jnt_X10_nextBuy_103 hn hG (fun x15 x16 h => ?_) h
            exact ih x15 x16 h
          · have h := h.2 c12
            refine x_aload_n dX10_nextBuy_64 rfl ?_
            refine x_iload dX10_nextBuy_65 rfl ?_
            refine x_cVl00 [.int x5] (mt_X10_gainOf hn hG h) dX10_nextBuy_67 lk_RX10_268 (km rfl hn) sh_336 rfl rfl (Nat.le_of_ble_eq_true rfl) (Rf_of rfl) (fun x17 h => ?_)
            refine x_aload_n dX10_nextBuy_70 rfl ?_
            refine x_getr (j := 337) dX10_nextBuy_71 fk_RX10_7 (km rfl hn) sh_336 (rt_336_1 hG) ?_
            refine x_bipush (v := 20) dX10_nextBuy_74 kb_20 ?_
            refine x_iload_n dX10_nextBuy_76 rfl ?_
            refine x_iconst (v := 3) dX10_nextBuy_77 ki_3 ?_
            refine x_irem dX10_nextBuy_78 (by decide) ?_
            refine x_iadd dX10_nextBuy_79 ?_
            obtain ⟨b18, h⟩ := h
            refine x_iaload dX10_nextBuy_80 (km rfl hn) sh_337 b18 ?_
            refine x_i2l dX10_nextBuy_81 ?_
            refine x_lmul dX10_nextBuy_82 ?_
            refine x_aload_n dX10_nextBuy_83 rfl ?_
            refine x_iload_n dX10_nextBuy_84 rfl ?_
            refine x_cVl00 [.int v1] (mt_X10_gainOf hn hG h) dX10_nextBuy_85 lk_RX10_268 (km rfl hn) sh_336 rfl rfl (Nat.le_of_ble_eq_true rfl) (Rf_of rfl) (fun x19 h => ?_)
            refine x_aload_n dX10_nextBuy_88 rfl ?_
            refine x_getr (j := 337) dX10_nextBuy_89 fk_RX10_7 (km rfl hn) sh_336 (rt_336_1 hG) ?_
            refine x_bipush (v := 20) dX10_nextBuy_92 kb_20 ?_
            refine x_iload_n dX10_nextBuy_94 rfl ?_
            refine x_iadd dX10_nextBuy_95 ?_
            obtain ⟨b20, h⟩ := h
            refine x_iaload dX10_nextBuy_96 (km rfl hn) sh_337 b20 ?_
            refine x_i2l dX10_nextBuy_97 ?_
            refine x_lmul dX10_nextBuy_98 ?_
            refine x_lcmp dX10_nextBuy_99 ?_
            refine x_if_le dX10_nextBuy_100 (tgt := 106) rfl ⟨fun c21 => ?_, fun c21 => ?_⟩
            · have h := h.1 c21
              refine x_ls (ls' := [(0, .ref 336), (1, .int v1), (2, .int v2), (3, .int v3)]) [1, 2, 3, 4] rfl ?_
              refine jnt_X10_nextBuy_106 hn hG (fun x22 x23 h => ?_) h
              exact ih x22 x23 h
            · have h := h.2 c21
              refine x_ls (ls' := [(0, .ref 336), (2, .int v2), (3, .int v3), (4, .int x5)]) [1, 3, 4, 0] rfl ?_
              refine jnt_X10_nextBuy_103 hn hG (fun x24 x25 h => ?_) h
              exact ih x24 x25 h
        · have h := h.2 c11
          refine x_goto dX10_nextBuy_56 (tgt := 106) rfl ?_
          refine x_ls (ls' := [(0, .ref 336), (1, .int v1), (2, .int v2), (3, .int v3)]) [1, 2, 3, 4] rfl ?_
          refine jnt_X10_nextBuy_106 hn hG (fun x26 x27 h => ?_) h
          exact ih x26 x27 h
def lp_X10_nextBuy_4 (I : MI) (Q : Int32 → Prop) : Nat → Int32 → Int32 → Prop
  | 0, _, _ => False
  | n + 1, v1, v2 =>
    (vp_in 1 2212 ∧ (((I 337 (ix 1)) ≤ v2 → Q v1) ∧ (¬ (I 337 (ix 1)) ≤ v2 → (∃ N28, lp_X10_nextBuy_16 I v2 (fun x29 => (lp_X10_nextBuy_4 I Q n x29 (v2 + 1))) N28 v1 0))))
set_option maxRecDepth 20000 in
theorem lpt_X10_nextBuy_4 {E : Ev} {l : Launch} {n : Nat} {R : MR} (hn : 349 ≤ n) (hG : GRm R) {Q : Int32 → Prop} {I : MI} {L : ML} : ∀ (N : Nat) (v1 : Int32) (v2 : Int32), lp_X10_nextBuy_4 I Q N v1 v2 → X E l rm_X10_nextBuy yX10_nextBuy cX10_nextBuy 5 (some .int) noX (ZM E rm_X10_nextBuy (Qi n R (P00 I L Q))) 4 [(0, .ref 336), (1, .int v1), (2, .int v2)] [] n I L R 0 0 := by
  intro N
  induction N with
  | zero => intro v1 v2 h; exact False.elim h
  | succ N ih =>
    intro v1 v2 h
    unfold lp_X10_nextBuy_4 at h
    refine x_iload_n dX10_nextBuy_4 rfl ?_
    refine x_aload_n dX10_nextBuy_5 rfl ?_
    refine x_getr (j := 337) dX10_nextBuy_6 fk_RX10_7 (km rfl hn) sh_336 (rt_336_1 hG) ?_
    refine x_iconst (v := 1) dX10_nextBuy_9 ki_1 ?_
    obtain ⟨b1, h⟩ := h
    refine x_iaload dX10_nextBuy_10 (km rfl hn) sh_337 b1 ?_
    refine x_icmp_ge dX10_nextBuy_11 (tgt := 118) rfl ⟨fun c2 => ?_, fun c2 => ?_⟩
    · have h := h.1 c2
      refine x_iload_n dX10_nextBuy_118 rfl ?_
      exact x_ireturn dX10_nextBuy_119 ⟨_, rfl, rfl, rfl, rfl, rfl, h⟩
    · have h := h.2 c2
      refine x_iconst (v := 0) dX10_nextBuy_14 ki_0 ?_
      refine x_istore_n (ls' := [(3, .int 0), (0, .ref 336), (1, .int v1), (2, .int v2)]) dX10_nextBuy_15 (Nat.le_of_ble_eq_true rfl) rfl ?_
      refine x_ls (ls' := [(0, .ref 336), (1, .int v1), (2, .int v2), (3, .int 0)]) [1, 2, 3, 0] rfl ?_
      obtain ⟨N28, h⟩ := h
      refine lpt_X10_nextBuy_16 hn hG (fun x29 h => ?_) N28 v1 0 h
      refine x_iinc (v := v2 + 1) (ls' := [(2, .int (v2 + 1)), (0, .ref 336), (1, .int x29)]) dX10_nextBuy_112 rfl (congrArg (_ + ·) ki_1) (Nat.le_of_ble_eq_true rfl) rfl ?_
      refine x_goto dX10_nextBuy_115 (tgt := 4) rfl ?_
      refine x_ls (ls' := [(0, .ref 336), (1, .int x29), (2, .int (v2 + 1))]) [1, 2, 0] rfl ?_
      exact ih x29 (v2 + 1) h
def wp_X10_nextBuy (I : MI) (Q : Int32 → Prop) : Prop :=
    (∃ N30, lp_X10_nextBuy_4 I Q N30 (-1) 0)
set_option maxRecDepth 20000 in
theorem mt_X10_nextBuy {E : Ev} {l : Launch} {n : Nat} {R : MR} (hn : 349 ≤ n) (hG : GRm R) {I : MI} {L : ML} {Q : Int32 → Prop} (h : wp_X10_nextBuy I Q) : MX E l rm_X10_nextBuy yX10_nextBuy cX10_nextBuy 5 (some .int) [.ref 336] n I L R (Qi n R (P00 I L Q)) := by
  refine MX_of (ls := [(0, .ref 336)]) (by decide) (Nat.le_of_ble_eq_true rfl) rfl ?_
  unfold wp_X10_nextBuy at h
  refine x_iconst (v := (-1)) dX10_nextBuy_0 ki_m1 ?_
  refine x_istore_n (ls' := [(1, .int (-1)), (0, .ref 336)]) dX10_nextBuy_1 (Nat.le_of_ble_eq_true rfl) rfl ?_
  refine x_iconst (v := 0) dX10_nextBuy_2 ki_0 ?_
  refine x_istore_n (ls' := [(2, .int 0), (1, .int (-1)), (0, .ref 336)]) dX10_nextBuy_3 (Nat.le_of_ble_eq_true rfl) rfl ?_
  refine x_ls (ls' := [(0, .ref 336), (1, .int (-1)), (2, .int 0)]) [2, 1, 0] rfl ?_
  obtain ⟨N30, h⟩ := h
  exact lpt_X10_nextBuy_4 hn hG  N30 (-1) 0 h
abbrev rm_X10_layBuys : Room := { frames := 5, cells := 0, slots := 0, locals := 121 }
def lp_X10_layBuys_2 (kf21 : MI → Prop) : Nat → Int32 → MI → Prop
  | 0, _, _ => False
  | n + 1, v1, I =>
    ((9 ≤ v1 → kf21 I) ∧ (¬ 9 ≤ v1 → (vp_in v1 9 ∧ (∀ I3, I3 = u2 I 344 (ix v1) 0 → (lp_X10_layBuys_2 kf21 n (v1 + 1) I3)))))
set_option maxRecDepth 20000 in
theorem lpt_X10_layBuys_2 {E : Ev} {l : Launch} {n : Nat} {R : MR} (hn : 349 ≤ n) (hG : GRm R) {I0 : MI} {Q : MI → Prop} {L : ML} {kf21 : MI → Prop}
    (hK21 : ∀ (I : MI), kf21 I → X E l rm_X10_layBuys yX10_layBuys cX10_layBuys 3 none noX (ZM E rm_X10_layBuys (Qv n R (V10 I0 L Q))) 21 [(0, .ref 336)] [] n I L R 0 0) : ∀ (N : Nat) (v1 : Int32) (I : MI), lp_X10_layBuys_2 kf21 N v1 I → X E l rm_X10_layBuys yX10_layBuys cX10_layBuys 3 none noX (ZM E rm_X10_layBuys (Qv n R (V10 I0 L Q))) 2 [(0, .ref 336), (1, .int v1)] [] n I L R 0 0 := by
  intro N
  induction N with
  | zero => intro v1 I h; exact False.elim h
  | succ N ih =>
    intro v1 I h
    unfold lp_X10_layBuys_2 at h
    refine x_iload_n dX10_layBuys_2 rfl ?_
    refine x_bipush (v := 9) dX10_layBuys_3 kb_9 ?_
    refine x_icmp_ge dX10_layBuys_5 (tgt := 21) rfl ⟨fun c1 => ?_, fun c1 => ?_⟩
    · have h := h.1 c1
      refine x_ls (ls' := [(0, .ref 336)]) [0] rfl ?_
      exact hK21 I h
    · have h := h.2 c1
      refine x_aload_n dX10_layBuys_8 rfl ?_
      refine x_getr (j := 344) dX10_layBuys_9 fk_RX10_31 (km rfl hn) sh_336 (rt_336_17 hG) ?_
      refine x_iload_n dX10_layBuys_12 rfl ?_
      refine x_iconst (v := 0) dX10_layBuys_13 ki_0 ?_
      obtain ⟨b2, h⟩ := h
      refine x_iastore dX10_layBuys_14 (km rfl hn) sh_344 b2 (fun I3 eI3 => ?_)
      have h := h I3 eI3
      refine x_iinc (v := v1 + 1) (ls' := [(1, .int (v1 + 1)), (0, .ref 336)]) dX10_layBuys_15 rfl (congrArg (_ + ·) ki_1) (Nat.le_of_ble_eq_true rfl) rfl ?_
      refine x_goto dX10_layBuys_18 (tgt := 2) rfl ?_
      refine x_ls (ls' := [(0, .ref 336), (1, .int (v1 + 1))]) [1, 0] rfl ?_
      exact ih (v1 + 1) I3 h
def lp_X10_layBuys_33 (Q : MI → Prop) : Nat → Int32 → Int32 → MI → Prop
  | 0, _, _, _ => False
  | n + 1, v1, v2, I =>
    ((v2 = (-1) → Q I) ∧ (¬ v2 = (-1) → (vp_in v2 9 ∧ (vp_in v2 9 ∧ (∀ I11, I11 = u2 I 344 (ix v2) ((I 344 (ix v2)) + 1) → (vp_in (20 + (v2 - v2 / 3 * 3)) 2212 ∧ (vp_in (I11 336 18) 90 ∧ (∀ I14, I14 = u2 I11 341 (ix (I11 336 18)) v2 → (vp_in v2 9 ∧ (vp_in (I14 336 18) 90 ∧ (∀ I17, I17 = u2 I14 342 (ix (I14 336 18)) (I14 344 (ix v2)) → (vp_in (I17 336 18) 90 ∧ (∀ I19, I19 = u2 I17 343 (ix (I17 336 18)) (v1 + (I11 337 (ix (20 + (v2 - v2 / 3 * 3))))) → (∀ I20, I20 = u2 I19 336 18 ((I19 336 18) + 1) → (wp_X10_nextBuy I20 (fun x21 => ((lp_X10_layBuys_33 Q n (v1 + (I11 337 (ix (20 + (v2 - v2 / 3 * 3))))) x21 I20))))))))))))))))))
set_option maxRecDepth 20000 in
theorem lpt_X10_layBuys_33 {E : Ev} {l : Launch} {n : Nat} {R : MR} (hn : 349 ≤ n) (hG : GRm R) {I0 : MI} {Q : MI → Prop} {L : ML} : ∀ (N : Nat) (v1 : Int32) (v2 : Int32) (I : MI), lp_X10_layBuys_33 Q N v1 v2 I → X E l rm_X10_layBuys yX10_layBuys cX10_layBuys 3 none noX (ZM E rm_X10_layBuys (Qv n R (V10 I0 L Q))) 33 [(0, .ref 336), (1, .int v1), (2, .int v2)] [] n I L R 0 0 := by
  intro N
  induction N with
  | zero => intro v1 v2 I h; exact False.elim h
  | succ N ih =>
    intro v1 v2 I h
    unfold lp_X10_layBuys_33 at h
    refine x_iload_n dX10_layBuys_33 rfl ?_
    refine x_iconst (v := (-1)) dX10_layBuys_34 ki_m1 ?_
    refine x_icmp_eq dX10_layBuys_35 (tgt := 115) rfl ⟨fun c8 => ?_, fun c8 => ?_⟩
    · have h := h.1 c8
      exact x_return dX10_layBuys_115 ⟨rfl, rfl, rfl, rfl, h⟩
    · have h := h.2 c8
      refine x_aload_n dX10_layBuys_38 rfl ?_
      refine x_getr (j := 344) dX10_layBuys_39 fk_RX10_31 (km rfl hn) sh_336 (rt_336_17 hG) ?_
      refine x_iload_n dX10_layBuys_42 rfl ?_
      refine x_dup2 dX10_layBuys_43 rfl rfl ?_
      obtain ⟨b9, h⟩ := h
      refine x_iaload dX10_layBuys_44 (km rfl hn) sh_344 b9 ?_
      refine x_iconst (v := 1) dX10_layBuys_45 ki_1 ?_
      refine x_iadd dX10_layBuys_46 ?_
      obtain ⟨b10, h⟩ := h
      refine x_iastore dX10_layBuys_47 (km rfl hn) sh_344 b10 (fun I11 eI11 => ?_)
      have h := h I11 eI11
      refine x_iload_n dX10_layBuys_48 rfl ?_
      refine x_aload_n dX10_layBuys_49 rfl ?_
      refine x_getr (j := 337) dX10_layBuys_50 fk_RX10_7 (km rfl hn) sh_336 (rt_336_1 hG) ?_
      refine x_bipush (v := 20) dX10_layBuys_53 kb_20 ?_
      refine x_iload_n dX10_layBuys_55 rfl ?_
      refine x_iconst (v := 3) dX10_layBuys_56 ki_3 ?_
      refine x_irem dX10_layBuys_57 (by decide) ?_
      refine x_iadd dX10_layBuys_58 ?_
      obtain ⟨b12, h⟩ := h
      refine x_iaload dX10_layBuys_59 (km rfl hn) sh_337 b12 ?_
      refine x_iadd dX10_layBuys_60 ?_
      refine x_istore_n (ls' := [(1, .int (v1 + (I11 337 (ix (20 + (v2 - v2 / 3 * 3)))))), (0, .ref 336), (2, .int v2)]) dX10_layBuys_61 (Nat.le_of_ble_eq_true rfl) rfl ?_
      refine x_aload_n dX10_layBuys_62 rfl ?_
      refine x_getr (j := 341) dX10_layBuys_63 fk_RX10_22 (km rfl hn) sh_336 (rt_336_14 hG) ?_
      refine x_aload_n dX10_layBuys_66 rfl ?_
      refine x_geti dX10_layBuys_67 fk_RX10_272 (km rfl hn) sh_336 ?_
      refine x_iload_n dX10_layBuys_70 rfl ?_
      obtain ⟨b13, h⟩ := h
      refine x_iastore dX10_layBuys_71 (km rfl hn) sh_341 b13 (fun I14 eI14 => ?_)
      have h := h I14 eI14
      refine x_aload_n dX10_layBuys_72 rfl ?_
      refine x_getr (j := 342) dX10_layBuys_73 fk_RX10_25 (km rfl hn) sh_336 (rt_336_15 hG) ?_
      refine x_aload_n dX10_layBuys_76 rfl ?_
      refine x_geti dX10_layBuys_77 fk_RX10_272 (km rfl hn) sh_336 ?_
      refine x_aload_n dX10_layBuys_80 rfl ?_
      refine x_getr (j := 344) dX10_layBuys_81 fk_RX10_31 (km rfl hn) sh_336 (rt_336_17 hG) ?_
      refine x_iload_n dX10_layBuys_84 rfl ?_
      obtain ⟨b15, h⟩ := h
      refine x_iaload dX10_layBuys_85 (km rfl hn) sh_344 b15 ?_
      obtain ⟨b16, h⟩ := h
      refine x_iastore dX10_layBuys_86 (km rfl hn) sh_342 b16 (fun I17 eI17 => ?_)
      have h := h I17 eI17
      refine x_aload_n dX10_layBuys_87 rfl ?_
      refine x_getr (j := 343) dX10_layBuys_88 fk_RX10_28 (km rfl hn) sh_336 (rt_336_16 hG) ?_
      refine x_aload_n dX10_layBuys_91 rfl ?_
      refine x_geti dX10_layBuys_92 fk_RX10_272 (km rfl hn) sh_336 ?_
      refine x_iload_n dX10_layBuys_95 rfl ?_
      obtain ⟨b18, h⟩ := h
      refine x_iastore dX10_layBuys_96 (km rfl hn) sh_343 b18 (fun I19 eI19 => ?_)
      have h := h I19 eI19
      refine x_aload_n dX10_layBuys_97 rfl ?_
      refine x_dup dX10_layBuys_98 rfl ?_
      refine x_geti dX10_layBuys_99 fk_RX10_272 (km rfl hn) sh_336 ?_
      refine x_iconst (v := 1) dX10_layBuys_102 ki_1 ?_
      refine x_iadd dX10_layBuys_103 ?_
      refine x_puti dX10_layBuys_104 fk_RX10_272 fw_8_18 (vp_nar_int _) rfl (km rfl hn) sh_336 (fun I20 eI20 => ?_)
      have h := h I20 eI20
      refine x_aload_n dX10_layBuys_107 rfl ?_
      refine x_cVi00 [] (mt_X10_nextBuy hn hG h) dX10_layBuys_108 lk_RX10_275 (km rfl hn) sh_336 rfl rfl (Nat.le_of_ble_eq_true rfl) (Rf_of rfl) (fun x21 h => ?_)
      refine x_istore_n (ls' := [(2, .int x21), (1, .int (v1 + (I11 337 (ix (20 + (v2 - v2 / 3 * 3)))))), (0, .ref 336)]) dX10_layBuys_111 (Nat.le_of_ble_eq_true rfl) rfl ?_
      refine x_goto dX10_layBuys_112 (tgt := 33) rfl ?_
      refine x_ls (ls' := [(0, .ref 336), (1, .int (v1 + (I11 337 (ix (20 + (v2 - v2 / 3 * 3)))))), (2, .int x21)]) [2, 1, 0] rfl ?_
      exact ih (v1 + (I11 337 (ix (20 + (v2 - v2 / 3 * 3))))) x21 I20 h
def wp_X10_layBuys (I : MI) (Q : MI → Prop) : Prop :=
    (∃ N4, lp_X10_layBuys_2 (fun I5 => (∀ I6, I6 = u2 I5 336 18 0 → (wp_X10_nextBuy I6 (fun x7 => ((∃ N22, lp_X10_layBuys_33 Q N22 0 x7 I6)))))) N4 0 I)
set_option maxRecDepth 20000 in
theorem mt_X10_layBuys {E : Ev} {l : Launch} {n : Nat} {R : MR} (hn : 349 ≤ n) (hG : GRm R) {I : MI} {L : ML} {Q : MI → Prop} (h : wp_X10_layBuys I Q) : MX E l rm_X10_layBuys yX10_layBuys cX10_layBuys 3 none [.ref 336] n I L R (Qv n R (V10 I L Q)) := by
  refine MX_of (ls := [(0, .ref 336)]) (by decide) (Nat.le_of_ble_eq_true rfl) rfl ?_
  unfold wp_X10_layBuys at h
  refine x_iconst (v := 0) dX10_layBuys_0 ki_0 ?_
  refine x_istore_n (ls' := [(1, .int 0), (0, .ref 336)]) dX10_layBuys_1 (Nat.le_of_ble_eq_true rfl) rfl ?_
  refine x_ls (ls' := [(0, .ref 336), (1, .int 0)]) [1, 0] rfl ?_
  obtain ⟨N4, h⟩ := h
  refine lpt_X10_layBuys_2 hn hG (fun I5 h => ?_) N4 0 I h
  refine x_aload_n dX10_layBuys_21 rfl ?_
  refine x_iconst (v := 0) dX10_layBuys_22 ki_0 ?_
  refine x_puti dX10_layBuys_23 fk_RX10_272 fw_8_18 (vp_nar_int _) rfl (km rfl hn) sh_336 (fun I6 eI6 => ?_)
  have h := h I6 eI6
  refine x_iconst (v := 0) dX10_layBuys_26 ki_0 ?_
  refine x_istore_n (ls' := [(1, .int 0), (0, .ref 336)]) dX10_layBuys_27 (Nat.le_of_ble_eq_true rfl) rfl ?_
  refine x_aload_n dX10_layBuys_28 rfl ?_
  refine x_cVi00 [] (mt_X10_nextBuy hn hG h) dX10_layBuys_29 lk_RX10_275 (km rfl hn) sh_336 rfl rfl (Nat.le_of_ble_eq_true rfl) (Rf_of rfl) (fun x7 h => ?_)
  refine x_istore_n (ls' := [(2, .int x7), (1, .int 0), (0, .ref 336)]) dX10_layBuys_32 (Nat.le_of_ble_eq_true rfl) rfl ?_
  refine x_ls (ls' := [(0, .ref 336), (1, .int 0), (2, .int x7)]) [2, 1, 0] rfl ?_
  obtain ⟨N22, h⟩ := h
  exact lpt_X10_layBuys_33 hn hG  N22 0 x7 I6 h
abbrev rm_X10_layBought : Room := { frames := 6, cells := 0, slots := 0, locals := 143 }
def lp_X10_layBought_6 (kf25 : MI → Prop) : Nat → Int32 → MI → Prop
  | 0, _, _ => False
  | n + 1, v2, I =>
    ((9 ≤ v2 → kf25 I) ∧ (¬ 9 ≤ v2 → (vp_in v2 9 ∧ (∀ I4, I4 = u2 I 344 (ix v2) 0 → (lp_X10_layBought_6 kf25 n (v2 + 1) I4)))))
set_option maxRecDepth 20000 in
theorem lpt_X10_layBought_6 {E : Ev} {l : Launch} {n : Nat} {R : MR} (hn : 349 ≤ n) (hG : GRm R) {I0 : MI} {Q : Int32 → MI → Prop} {v1 : Int32} {L : ML} {kf25 : MI → Prop}
    (hK25 : ∀ (I : MI), kf25 I → X E l rm_X10_layBought yX10_layBought cX10_layBought 3 (some .int) noX (ZM E rm_X10_layBought (Qi n R (P10 I0 L Q))) 25 [(0, .ref 336), (1, .int v1)] [] n I L R 0 0) : ∀ (N : Nat) (v2 : Int32) (I : MI), lp_X10_layBought_6 kf25 N v2 I → X E l rm_X10_layBought yX10_layBought cX10_layBought 3 (some .int) noX (ZM E rm_X10_layBought (Qi n R (P10 I0 L Q))) 6 [(0, .ref 336), (1, .int v1), (2, .int v2)] [] n I L R 0 0 := by
  intro N
  induction N with
  | zero => intro v2 I h; exact False.elim h
  | succ N ih =>
    intro v2 I h
    unfold lp_X10_layBought_6 at h
    refine x_iload_n dX10_layBought_6 rfl ?_
    refine x_bipush (v := 9) dX10_layBought_7 kb_9 ?_
    refine x_icmp_ge dX10_layBought_9 (tgt := 25) rfl ⟨fun c2 => ?_, fun c2 => ?_⟩
    · have h := h.1 c2
      refine x_ls (ls' := [(0, .ref 336), (1, .int v1)]) [0, 1] rfl ?_
      exact hK25 I h
    · have h := h.2 c2
      refine x_aload_n dX10_layBought_12 rfl ?_
      refine x_getr (j := 344) dX10_layBought_13 fk_RX10_31 (km rfl hn) sh_336 (rt_336_17 hG) ?_
      refine x_iload_n dX10_layBought_16 rfl ?_
      refine x_iconst (v := 0) dX10_layBought_17 ki_0 ?_
      obtain ⟨b3, h⟩ := h
      refine x_iastore dX10_layBought_18 (km rfl hn) sh_344 b3 (fun I4 eI4 => ?_)
      have h := h I4 eI4
      refine x_iinc (v := v2 + 1) (ls' := [(2, .int (v2 + 1)), (0, .ref 336), (1, .int v1)]) dX10_layBought_19 rfl (congrArg (_ + ·) ki_1) (Nat.le_of_ble_eq_true rfl) rfl ?_
      refine x_goto dX10_layBought_22 (tgt := 6) rfl ?_
      refine x_ls (ls' := [(0, .ref 336), (1, .int v1), (2, .int (v2 + 1))]) [1, 2, 0] rfl ?_
      exact ih (v2 + 1) I4 h
def lp_X10_layBought_27 (v1 : Int32) (Q : Int32 → MI → Prop) : Nat → Int32 → MI → Prop
  | 0, _, _ => False
  | n + 1, v2, I =>
    (((I 336 18) ≤ v2 → Q v2 I) ∧ (¬ (I 336 18) ≤ v2 → (vp_in v2 90 ∧ ((v1 < (I 343 (ix v2)) → Q v2 I) ∧ (¬ v1 < (I 343 (ix v2)) → (vp_in v2 90 ∧ (vp_in (I 341 (ix v2)) 9 ∧ (vp_in (I 341 (ix v2)) 9 ∧ (∀ I13, I13 = u2 I 344 (ix (I 341 (ix v2))) ((I 344 (ix (I 341 (ix v2)))) + 1) → (lp_X10_layBought_27 v1 Q n (v2 + 1) I13))))))))))
set_option maxRecDepth 20000 in
theorem lpt_X10_layBought_27 {E : Ev} {l : Launch} {n : Nat} {R : MR} (hn : 349 ≤ n) (hG : GRm R) {I0 : MI} {Q : Int32 → MI → Prop} {v1 : Int32} {L : ML} : ∀ (N : Nat) (v2 : Int32) (I : MI), lp_X10_layBought_27 v1 Q N v2 I → X E l rm_X10_layBought yX10_layBought cX10_layBought 3 (some .int) noX (ZM E rm_X10_layBought (Qi n R (P10 I0 L Q))) 27 [(0, .ref 336), (1, .int v1), (2, .int v2)] [] n I L R 0 0 := by
  intro N
  induction N with
  | zero => intro v2 I h; exact False.elim h
  | succ N ih =>
    intro v2 I h
    unfold lp_X10_layBought_27 at h
    refine x_iload_n dX10_layBought_27 rfl ?_
    refine x_aload_n dX10_layBought_28 rfl ?_
    refine x_geti dX10_layBought_29 fk_RX10_272 (km rfl hn) sh_336 ?_
    refine x_icmp_ge dX10_layBought_32 (tgt := 66) rfl ⟨fun c7 => ?_, fun c7 => ?_⟩
    · have h := h.1 c7
      refine x_iload_n dX10_layBought_66 rfl ?_
      exact x_ireturn dX10_layBought_67 ⟨_, rfl, rfl, rfl, rfl, h⟩
    · have h := h.2 c7
      refine x_aload_n dX10_layBought_35 rfl ?_
      refine x_getr (j := 343) dX10_layBought_36 fk_RX10_28 (km rfl hn) sh_336 (rt_336_16 hG) ?_
      refine x_iload_n dX10_layBought_39 rfl ?_
      obtain ⟨b8, h⟩ := h
      refine x_iaload dX10_layBought_40 (km rfl hn) sh_343 b8 ?_
      refine x_iload_n dX10_layBought_41 rfl ?_
      refine x_icmp_gt dX10_layBought_42 (tgt := 66) rfl ⟨fun c9 => ?_, fun c9 => ?_⟩
      · have h := h.1 c9
        refine x_iload_n dX10_layBought_66 rfl ?_
        exact x_ireturn dX10_layBought_67 ⟨_, rfl, rfl, rfl, rfl, h⟩
      · have h := h.2 c9
        refine x_aload_n dX10_layBought_45 rfl ?_
        refine x_getr (j := 344) dX10_layBought_46 fk_RX10_31 (km rfl hn) sh_336 (rt_336_17 hG) ?_
        refine x_aload_n dX10_layBought_49 rfl ?_
        refine x_getr (j := 341) dX10_layBought_50 fk_RX10_22 (km rfl hn) sh_336 (rt_336_14 hG) ?_
        refine x_iload_n dX10_layBought_53 rfl ?_
        obtain ⟨b10, h⟩ := h
        refine x_iaload dX10_layBought_54 (km rfl hn) sh_341 b10 ?_
        refine x_dup2 dX10_layBought_55 rfl rfl ?_
        obtain ⟨b11, h⟩ := h
        refine x_iaload dX10_layBought_56 (km rfl hn) sh_344 b11 ?_
        refine x_iconst (v := 1) dX10_layBought_57 ki_1 ?_
        refine x_iadd dX10_layBought_58 ?_
        obtain ⟨b12, h⟩ := h
        refine x_iastore dX10_layBought_59 (km rfl hn) sh_344 b12 (fun I13 eI13 => ?_)
        have h := h I13 eI13
        refine x_iinc (v := v2 + 1) (ls' := [(2, .int (v2 + 1)), (0, .ref 336), (1, .int v1)]) dX10_layBought_60 rfl (congrArg (_ + ·) ki_1) (Nat.le_of_ble_eq_true rfl) rfl ?_
        refine x_goto dX10_layBought_63 (tgt := 27) rfl ?_
        refine x_ls (ls' := [(0, .ref 336), (1, .int v1), (2, .int (v2 + 1))]) [1, 2, 0] rfl ?_
        exact ih (v2 + 1) I13 h
def wp_X10_layBought (I : MI) (v1 : Int32) (Q : Int32 → MI → Prop) : Prop :=
    (wp_X10_layBuys I (fun I1 => ((∃ N5, lp_X10_layBought_6 (fun I6 => (∃ N14, lp_X10_layBought_27 v1 Q N14 0 I6)) N5 0 I1))))
set_option maxRecDepth 20000 in
theorem mt_X10_layBought {E : Ev} {l : Launch} {n : Nat} {R : MR} (hn : 349 ≤ n) (hG : GRm R) {I : MI} {L : ML} {v1 : Int32} {Q : Int32 → MI → Prop} (h : wp_X10_layBought I v1 Q) : MX E l rm_X10_layBought yX10_layBought cX10_layBought 3 (some .int) [.ref 336, .int v1] n I L R (Qi n R (P10 I L Q)) := by
  refine MX_of (ls := [(0, .ref 336), (1, .int v1)]) (by decide) (Nat.le_of_ble_eq_true rfl) rfl ?_
  unfold wp_X10_layBought at h
  refine x_aload_n dX10_layBought_0 rfl ?_
  refine x_cVv10 [] (mt_X10_layBuys hn hG h) dX10_layBought_1 lk_RX10_278 (km rfl hn) sh_336 rfl rfl (Nat.le_of_ble_eq_true rfl) (Rf_of rfl) (fun I1 h => ?_)
  refine x_iconst (v := 0) dX10_layBought_4 ki_0 ?_
  refine x_istore_n (ls' := [(2, .int 0), (0, .ref 336), (1, .int v1)]) dX10_layBought_5 (Nat.le_of_ble_eq_true rfl) rfl ?_
  refine x_ls (ls' := [(0, .ref 336), (1, .int v1), (2, .int 0)]) [1, 2, 0] rfl ?_
  obtain ⟨N5, h⟩ := h
  refine lpt_X10_layBought_6 hn hG (fun I6 h => ?_) N5 0 I1 h
  refine x_iconst (v := 0) dX10_layBought_25 ki_0 ?_
  refine x_istore_n (ls' := [(2, .int 0), (0, .ref 336), (1, .int v1)]) dX10_layBought_26 (Nat.le_of_ble_eq_true rfl) rfl ?_
  refine x_ls (ls' := [(0, .ref 336), (1, .int v1), (2, .int 0)]) [1, 2, 0] rfl ?_
  obtain ⟨N14, h⟩ := h
  exact lpt_X10_layBought_27 hn hG  N14 0 I6 h
abbrev rm_X10_bought : Room := { frames := 7, cells := 0, slots := 0, locals := 165 }
def wp_X10_bought (I : MI) (v1 : Int32) (v2 : Int32) (Q : Int32 → MI → Prop) : Prop :=
    (wp_X10_isIn v1 0 99 (fun x1 => (((x1 = 0 → Q (-1) I) ∧ (¬ x1 = 0 → (wp_X10_isIn v2 0 4 (fun x3 => (((¬ x3 = 0 → (wp_X10_layBought I v1 (fun x5 I6 => (((2 ≤ v2 → (vp_in (3 * (v2 - 2)) 9 ∧ (vp_in ((3 * (v2 - 2)) + 1) 9 ∧ (vp_in ((3 * (v2 - 2)) + 2) 9 ∧ Q (((I6 344 (ix (3 * (v2 - 2)))) + (I6 344 (ix ((3 * (v2 - 2)) + 1)))) + (I6 344 (ix ((3 * (v2 - 2)) + 2)))) I6)))) ∧ (¬ 2 ≤ v2 → ((¬ v2 = 0 → ((¬ x5 = 0 → (vp_in (x5 - 1) 90 ∧ Q (I6 343 (ix (x5 - 1))) I6)) ∧ (x5 = 0 → Q 0 I6))) ∧ (v2 = 0 → Q x5 I6)))))))) ∧ (x3 = 0 → Q (-1) I))))))))))
set_option maxRecDepth 20000 in
theorem mt_X10_bought {E : Ev} {l : Launch} {n : Nat} {R : MR} (hn : 349 ≤ n) (hG : GRm R) {I : MI} {L : ML} {v1 : Int32} {v2 : Int32} {Q : Int32 → MI → Prop} (h : wp_X10_bought I v1 v2 Q) : MX E l rm_X10_bought yX10_bought cX10_bought 4 (some .int) [.ref 336, .int v1, .int v2] n I L R (Qi n R (P10 I L Q)) := by
  refine MX_of (ls := [(0, .ref 336), (1, .int v1), (2, .int v2)]) (by decide) (Nat.le_of_ble_eq_true rfl) rfl ?_
  unfold wp_X10_bought at h
  refine x_iload_n dX10_bought_0 rfl ?_
  refine x_iconst (v := 0) dX10_bought_1 ki_0 ?_
  refine x_bipush (v := 99) dX10_bought_2 kb_99 ?_
  refine x_cSi00 [.int v1, .int 0, .int 99] (mt_X10_isIn hn hG h) dX10_bought_4 lk_RX10_51 rfl rfl (Nat.le_of_ble_eq_true rfl) (Rf_of rfl) (fun x1 h => ?_)
  refine x_if_eq dX10_bought_7 (tgt := 19) rfl ⟨fun c2 => ?_, fun c2 => ?_⟩
  · have h := h.1 c2
    refine x_iconst (v := (-1)) dX10_bought_19 ki_m1 ?_
    exact x_ireturn dX10_bought_20 ⟨_, rfl, rfl, rfl, rfl, h⟩
  · have h := h.2 c2
    refine x_iload_n dX10_bought_10 rfl ?_
    refine x_iconst (v := 0) dX10_bought_11 ki_0 ?_
    refine x_iconst (v := 4) dX10_bought_12 ki_4 ?_
    refine x_cSi00 [.int v2, .int 0, .int 4] (mt_X10_isIn hn hG h) dX10_bought_13 lk_RX10_51 rfl rfl (Nat.le_of_ble_eq_true rfl) (Rf_of rfl) (fun x3 h => ?_)
    refine x_if_ne dX10_bought_16 (tgt := 21) rfl ⟨fun c4 => ?_, fun c4 => ?_⟩
    · have h := h.1 c4
      refine x_aload_n dX10_bought_21 rfl ?_
      refine x_iload_n dX10_bought_22 rfl ?_
      refine x_cVi10 [.int v1] (mt_X10_layBought hn hG h) dX10_bought_23 lk_RX10_281 (km rfl hn) sh_336 rfl rfl (Nat.le_of_ble_eq_true rfl) (Rf_of rfl) (fun x5 I6 h => ?_)
      refine x_istore_n (ls' := [(3, .int x5), (0, .ref 336), (1, .int v1), (2, .int v2)]) dX10_bought_26 (Nat.le_of_ble_eq_true rfl) rfl ?_
      refine x_iload_n dX10_bought_27 rfl ?_
      refine x_iconst (v := 2) dX10_bought_28 ki_2 ?_
      refine x_icmp_ge dX10_bought_29 (tgt := 57) rfl ⟨fun c7 => ?_, fun c7 => ?_⟩
      · have h := h.1 c7
        refine x_aload_n dX10_bought_57 rfl ?_
        refine x_getr (j := 344) dX10_bought_58 fk_RX10_31 (km rfl hn) sh_336 (rt_336_17 hG) ?_
        refine x_iconst (v := 3) dX10_bought_61 ki_3 ?_
        refine x_iload_n dX10_bought_62 rfl ?_
        refine x_iconst (v := 2) dX10_bought_63 ki_2 ?_
        refine x_isub dX10_bought_64 ?_
        refine x_imul dX10_bought_65 ?_
        obtain ⟨b8, h⟩ := h
        refine x_iaload dX10_bought_66 (km rfl hn) sh_344 b8 ?_
        refine x_aload_n dX10_bought_67 rfl ?_
        refine x_getr (j := 344) dX10_bought_68 fk_RX10_31 (km rfl hn) sh_336 (rt_336_17 hG) ?_
        refine x_iconst (v := 3) dX10_bought_71 ki_3 ?_
        refine x_iload_n dX10_bought_72 rfl ?_
        refine x_iconst (v := 2) dX10_bought_73 ki_2 ?_
        refine x_isub dX10_bought_74 ?_
        refine x_imul dX10_bought_75 ?_
        refine x_iconst (v := 1) dX10_bought_76 ki_1 ?_
        refine x_iadd dX10_bought_77 ?_
        obtain ⟨b9, h⟩ := h
        refine x_iaload dX10_bought_78 (km rfl hn) sh_344 b9 ?_
        refine x_iadd dX10_bought_79 ?_
        refine x_aload_n dX10_bought_80 rfl ?_
        refine x_getr (j := 344) dX10_bought_81 fk_RX10_31 (km rfl hn) sh_336 (rt_336_17 hG) ?_
        refine x_iconst (v := 3) dX10_bought_84 ki_3 ?_
        refine x_iload_n dX10_bought_85 rfl ?_
        refine x_iconst (v := 2) dX10_bought_86 ki_2 ?_
        refine x_isub dX10_bought_87 ?_
        refine x_imul dX10_bought_88 ?_
        refine x_iconst (v := 2) dX10_bought_89 ki_2 ?_
        refine x_iadd dX10_bought_90 ?_
        obtain ⟨b10, h⟩ := h
        refine x_iaload dX10_bought_91 (km rfl hn) sh_344 b10 ?_
        refine x_iadd dX10_bought_92 ?_
        exact x_ireturn dX10_bought_93 ⟨_, rfl, rfl, rfl, rfl, h⟩
      · have h := h.2 c7
        refine x_iload_n dX10_bought_32 rfl ?_
        refine x_if_ne dX10_bought_33 (tgt := 40) rfl ⟨fun c11 => ?_, fun c11 => ?_⟩
        · have h := h.1 c11
          refine x_iload_n dX10_bought_40 rfl ?_
          refine x_if_ne dX10_bought_41 (tgt := 48) rfl ⟨fun c12 => ?_, fun c12 => ?_⟩
          · have h := h.1 c12
            refine x_aload_n dX10_bought_48 rfl ?_
            refine x_getr (j := 343) dX10_bought_49 fk_RX10_28 (km rfl hn) sh_336 (rt_336_16 hG) ?_
            refine x_iload_n dX10_bought_52 rfl ?_
            refine x_iconst (v := 1) dX10_bought_53 ki_1 ?_
            refine x_isub dX10_bought_54 ?_
            obtain ⟨b13, h⟩ := h
            refine x_iaload dX10_bought_55 (km rfl hn) sh_343 b13 ?_
            exact x_ireturn dX10_bought_56 ⟨_, rfl, rfl, rfl, rfl, h⟩
          · have h := h.2 c12
            refine x_iconst (v := 0) dX10_bought_44 ki_0 ?_
            refine x_goto dX10_bought_45 (tgt := 56) rfl ?_
            exact x_ireturn dX10_bought_56 ⟨_, rfl, rfl, rfl, rfl, h⟩
        · have h := h.2 c11
          refine x_iload_n dX10_bought_36 rfl ?_
          refine x_goto dX10_bought_37 (tgt := 56) rfl ?_
          exact x_ireturn dX10_bought_56 ⟨_, rfl, rfl, rfl, rfl, h⟩
    · have h := h.2 c4
      refine x_iconst (v := (-1)) dX10_bought_19 ki_m1 ?_
      exact x_ireturn dX10_bought_20 ⟨_, rfl, rfl, rfl, rfl, h⟩
abbrev rm_X10_buys : Room := { frames := 6, cells := 0, slots := 0, locals := 143 }
def wp_X10_buys (I : MI) (v1 : Int32) (v2 : Int32) (Q : Int32 → MI → Prop) : Prop :=
    ((v1 < 0 → Q (-1) I) ∧ (¬ v1 < 0 → (wp_X10_isIn v2 0 3 (fun x2 => (((¬ x2 = 0 → (wp_X10_layBuys I (fun I4 => (((v1 < (I4 336 18) → ((¬ v2 = 0 → ((¬ v2 = 1 → ((¬ v2 = 2 → (vp_in v1 90 ∧ Q (I4 343 (ix v1)) I4)) ∧ (v2 = 2 → (vp_in v1 90 ∧ Q (I4 342 (ix v1)) I4)))) ∧ (v2 = 1 → (vp_in v1 90 ∧ Q ((I4 341 (ix v1)) - (I4 341 (ix v1)) / 3 * 3) I4)))) ∧ (v2 = 0 → (vp_in v1 90 ∧ Q ((I4 341 (ix v1)) / 3) I4)))) ∧ (¬ v1 < (I4 336 18) → Q (-1) I4)))))) ∧ (x2 = 0 → Q (-1) I)))))))
set_option maxRecDepth 20000 in
theorem mt_X10_buys {E : Ev} {l : Launch} {n : Nat} {R : MR} (hn : 349 ≤ n) (hG : GRm R) {I : MI} {L : ML} {v1 : Int32} {v2 : Int32} {Q : Int32 → MI → Prop} (h : wp_X10_buys I v1 v2 Q) : MX E l rm_X10_buys yX10_buys cX10_buys 3 (some .int) [.ref 336, .int v1, .int v2] n I L R (Qi n R (P10 I L Q)) := by
  refine MX_of (ls := [(0, .ref 336), (1, .int v1), (2, .int v2)]) (by decide) (Nat.le_of_ble_eq_true rfl) rfl ?_
  unfold wp_X10_buys at h
  refine x_iload_n dX10_buys_0 rfl ?_
  refine x_if_lt dX10_buys_1 (tgt := 13) rfl ⟨fun c1 => ?_, fun c1 => ?_⟩
  · have h := h.1 c1
    refine x_iconst (v := (-1)) dX10_buys_13 ki_m1 ?_
    exact x_ireturn dX10_buys_14 ⟨_, rfl, rfl, rfl, rfl, h⟩
  · have h := h.2 c1
    refine x_iload_n dX10_buys_4 rfl ?_
    refine x_iconst (v := 0) dX10_buys_5 ki_0 ?_
    refine x_iconst (v := 3) dX10_buys_6 ki_3 ?_
    refine x_cSi00 [.int v2, .int 0, .int 3] (mt_X10_isIn hn hG h) dX10_buys_7 lk_RX10_51 rfl rfl (Nat.le_of_ble_eq_true rfl) (Rf_of rfl) (fun x2 h => ?_)
    refine x_if_ne dX10_buys_10 (tgt := 15) rfl ⟨fun c3 => ?_, fun c3 => ?_⟩
    · have h := h.1 c3
      refine x_aload_n dX10_buys_15 rfl ?_
      refine x_cVv10 [] (mt_X10_layBuys hn hG h) dX10_buys_16 lk_RX10_278 (km rfl hn) sh_336 rfl rfl (Nat.le_of_ble_eq_true rfl) (Rf_of rfl) (fun I4 h => ?_)
      refine x_iload_n dX10_buys_19 rfl ?_
      refine x_aload_n dX10_buys_20 rfl ?_
      refine x_geti dX10_buys_21 fk_RX10_272 (km rfl hn) sh_336 ?_
      refine x_icmp_lt dX10_buys_24 (tgt := 29) rfl ⟨fun c5 => ?_, fun c5 => ?_⟩
      · have h := h.1 c5
        refine x_iload_n dX10_buys_29 rfl ?_
        refine x_if_ne dX10_buys_30 (tgt := 44) rfl ⟨fun c6 => ?_, fun c6 => ?_⟩
        · have h := h.1 c6
          refine x_iload_n dX10_buys_44 rfl ?_
          refine x_iconst (v := 1) dX10_buys_45 ki_1 ?_
          refine x_icmp_ne dX10_buys_46 (tgt := 60) rfl ⟨fun c7 => ?_, fun c7 => ?_⟩
          · have h := h.1 c7
            refine x_iload_n dX10_buys_60 rfl ?_
            refine x_iconst (v := 2) dX10_buys_61 ki_2 ?_
            refine x_icmp_ne dX10_buys_62 (tgt := 74) rfl ⟨fun c8 => ?_, fun c8 => ?_⟩
            · have h := h.1 c8
              refine x_aload_n dX10_buys_74 rfl ?_
              refine x_getr (j := 343) dX10_buys_75 fk_RX10_28 (km rfl hn) sh_336 (rt_336_16 hG) ?_
              refine x_iload_n dX10_buys_78 rfl ?_
              obtain ⟨b9, h⟩ := h
              refine x_iaload dX10_buys_79 (km rfl hn) sh_343 b9 ?_
              exact x_ireturn dX10_buys_80 ⟨_, rfl, rfl, rfl, rfl, h⟩
            · have h := h.2 c8
              refine x_aload_n dX10_buys_65 rfl ?_
              refine x_getr (j := 342) dX10_buys_66 fk_RX10_25 (km rfl hn) sh_336 (rt_336_15 hG) ?_
              refine x_iload_n dX10_buys_69 rfl ?_
              obtain ⟨b10, h⟩ := h
              refine x_iaload dX10_buys_70 (km rfl hn) sh_342 b10 ?_
              refine x_goto dX10_buys_71 (tgt := 80) rfl ?_
              exact x_ireturn dX10_buys_80 ⟨_, rfl, rfl, rfl, rfl, h⟩
          · have h := h.2 c7
            refine x_aload_n dX10_buys_49 rfl ?_
            refine x_getr (j := 341) dX10_buys_50 fk_RX10_22 (km rfl hn) sh_336 (rt_336_14 hG) ?_
            refine x_iload_n dX10_buys_53 rfl ?_
            obtain ⟨b11, h⟩ := h
            refine x_iaload dX10_buys_54 (km rfl hn) sh_341 b11 ?_
            refine x_iconst (v := 3) dX10_buys_55 ki_3 ?_
            refine x_irem dX10_buys_56 (by decide) ?_
            refine x_goto dX10_buys_57 (tgt := 80) rfl ?_
            exact x_ireturn dX10_buys_80 ⟨_, rfl, rfl, rfl, rfl, h⟩
        · have h := h.2 c6
          refine x_aload_n dX10_buys_33 rfl ?_
          refine x_getr (j := 341) dX10_buys_34 fk_RX10_22 (km rfl hn) sh_336 (rt_336_14 hG) ?_
          refine x_iload_n dX10_buys_37 rfl ?_
          obtain ⟨b12, h⟩ := h
          refine x_iaload dX10_buys_38 (km rfl hn) sh_341 b12 ?_
          refine x_iconst (v := 3) dX10_buys_39 ki_3 ?_
          refine x_idiv dX10_buys_40 (by decide) ?_
          refine x_goto dX10_buys_41 (tgt := 80) rfl ?_
          exact x_ireturn dX10_buys_80 ⟨_, rfl, rfl, rfl, rfl, h⟩
      · have h := h.2 c5
        refine x_iconst (v := (-1)) dX10_buys_27 ki_m1 ?_
        exact x_ireturn dX10_buys_28 ⟨_, rfl, rfl, rfl, rfl, h⟩
    · have h := h.2 c3
      refine x_iconst (v := (-1)) dX10_buys_13 ki_m1 ?_
      exact x_ireturn dX10_buys_14 ⟨_, rfl, rfl, rfl, rfl, h⟩
abbrev rm_X10_lack : Room := { frames := 3, cells := 0, slots := 0, locals := 76 }
def wp_X10_lack (I : MI) (v1 : Int32) (v2 : Int32) (v3 : Int32) (Q : Int64 → Prop) : Prop :=
    (wp_X10_isCell I v1 v2 (fun x1 => (((x1 = 0 → Q (-1)) ∧ (¬ x1 = 0 → (wp_X10_isIn v3 0 9 (fun x3 => (((x3 = 0 → Q (-1)) ∧ (¬ x3 = 0 → (wp_X10_cellOf v1 v2 (fun x5 => ((wp_X10_lackOf I x5 v3 (fun x6 => (Q x6))))))))))))))))
set_option maxRecDepth 20000 in
theorem mt_X10_lack {E : Ev} {l : Launch} {n : Nat} {R : MR} (hn : 349 ≤ n) (hG : GRm R) {I : MI} {L : ML} {v1 : Int32} {v2 : Int32} {v3 : Int32} {Q : Int64 → Prop} (h : wp_X10_lack I v1 v2 v3 Q) : MX E l rm_X10_lack yX10_lack cX10_lack 4 (some .long) [.ref 336, .int v1, .int v2, .int v3] n I L R (Ql n R (P00 I L Q)) := by
  refine MX_of (ls := [(0, .ref 336), (1, .int v1), (2, .int v2), (3, .int v3)]) (by decide) (Nat.le_of_ble_eq_true rfl) rfl ?_
  unfold wp_X10_lack at h
  refine x_aload_n dX10_lack_0 rfl ?_
  refine x_iload_n dX10_lack_1 rfl ?_
  refine x_iload_n dX10_lack_2 rfl ?_
  refine x_cVi00 [.int v1, .int v2] (mt_X10_isCell hn hG h) dX10_lack_3 lk_RX10_211 (km rfl hn) sh_336 rfl rfl (Nat.le_of_ble_eq_true rfl) (Rf_of rfl) (fun x1 h => ?_)
  refine x_if_eq dX10_lack_6 (tgt := 32) rfl ⟨fun c2 => ?_, fun c2 => ?_⟩
  · have h := h.1 c2
    refine x_ldc2 (v := -1) dX10_lack_32 kc_RX10_255 ?_
    exact x_lreturn dX10_lack_35 ⟨_, rfl, rfl, rfl, rfl, rfl, h⟩
  · have h := h.2 c2
    refine x_iload_n dX10_lack_9 rfl ?_
    refine x_iconst (v := 0) dX10_lack_10 ki_0 ?_
    refine x_bipush (v := 9) dX10_lack_11 kb_9 ?_
    refine x_cSi00 [.int v3, .int 0, .int 9] (mt_X10_isIn hn hG h) dX10_lack_13 lk_RX10_51 rfl rfl (Nat.le_of_ble_eq_true rfl) (Rf_of rfl) (fun x3 h => ?_)
    refine x_if_eq dX10_lack_16 (tgt := 32) rfl ⟨fun c4 => ?_, fun c4 => ?_⟩
    · have h := h.1 c4
      refine x_ldc2 (v := -1) dX10_lack_32 kc_RX10_255 ?_
      exact x_lreturn dX10_lack_35 ⟨_, rfl, rfl, rfl, rfl, rfl, h⟩
    · have h := h.2 c4
      refine x_aload_n dX10_lack_19 rfl ?_
      refine x_iload_n dX10_lack_20 rfl ?_
      refine x_iload_n dX10_lack_21 rfl ?_
      refine x_cSi00 [.int v1, .int v2] (mt_X10_cellOf hn hG h) dX10_lack_22 lk_RX10_104 rfl rfl (Nat.le_of_ble_eq_true rfl) (Rf_of rfl) (fun x5 h => ?_)
      refine x_iload_n dX10_lack_25 rfl ?_
      refine x_cVl00 [.int x5, .int v3] (mt_X10_lackOf hn hG h) dX10_lack_26 lk_RX10_257 (km rfl hn) sh_336 rfl rfl (Nat.le_of_ble_eq_true rfl) (Rf_of rfl) (fun x6 h => ?_)
      refine x_goto dX10_lack_29 (tgt := 35) rfl ?_
      exact x_lreturn dX10_lack_35 ⟨_, rfl, rfl, rfl, rfl, rfl, h⟩
abbrev rm_X10_lacksBySpares : Room := { frames := 3, cells := 0, slots := 0, locals := 76 }
def lp_X10_lacksBySpares_19 (a1 N1 : Nat) (I : MI) (v4 : Int32) (kf59 : Int64 → Prop) : Nat → Int64 → Int32 → Prop
  | 0, _, _ => False
  | n + 1, v2, v5 =>
    (vp_in 0 2212 ∧ (((I 337 (ix 0)) ≤ v5 → kf59 v2) ∧ (¬ (I 337 (ix 0)) ≤ v5 → (wp_X10_cellOf v4 v5 (fun x5 => ((wp_X10_cellOf v4 v5 (fun x6 => ((vp_in x6 N1 ∧ (wp_X10_lackOf I x5 (I a1 (ix x6)) (fun x8 => ((lp_X10_lacksBySpares_19 a1 N1 I v4 kf59 n (v2 + x8) (v5 + 1)))))))))))))))
set_option maxRecDepth 20000 in
theorem lpt_X10_lacksBySpares_19 {E : Ev} {l : Launch} {n : Nat} {R : MR} {a1 N1 : Nat} (hn : 349 ≤ n) (hG : GRm R) (ha1 : a1 < n ∧ sh a1 = .inr (0, N1)) {Q : Int64 → Prop} {v4 : Int32} {I : MI} {L : ML} {kf59 : Int64 → Prop}
    (hK59 : ∀ (v2 : Int64), kf59 v2 → X E l rm_X10_lacksBySpares yX10_lacksBySpares cX10_lacksBySpares 6 (some .long) noX (ZM E rm_X10_lacksBySpares (Ql n R (P00 I L Q))) 59 [(0, .ref 336), (1, .ref a1), (2, .long v2), (4, .int v4)] [] n I L R 0 0) : ∀ (N : Nat) (v2 : Int64) (v5 : Int32), lp_X10_lacksBySpares_19 a1 N1 I v4 kf59 N v2 v5 → X E l rm_X10_lacksBySpares yX10_lacksBySpares cX10_lacksBySpares 6 (some .long) noX (ZM E rm_X10_lacksBySpares (Ql n R (P00 I L Q))) 19 [(0, .ref 336), (1, .ref a1), (2, .long v2), (4, .int v4), (5, .int v5)] [] n I L R 0 0 := by
  intro N
  induction N with
  | zero => intro v2 v5 h; exact False.elim h
  | succ N ih =>
    intro v2 v5 h
    unfold lp_X10_lacksBySpares_19 at h
    refine x_iload dX10_lacksBySpares_19 rfl ?_
    refine x_aload_n dX10_lacksBySpares_21 rfl ?_
    refine x_getr (j := 337) dX10_lacksBySpares_22 fk_RX10_7 (km rfl hn) sh_336 (rt_336_1 hG) ?_
    refine x_iconst (v := 0) dX10_lacksBySpares_25 ki_0 ?_
    obtain ⟨b3, h⟩ := h
    refine x_iaload dX10_lacksBySpares_26 (km rfl hn) sh_337 b3 ?_
    refine x_icmp_ge dX10_lacksBySpares_27 (tgt := 59) rfl ⟨fun c4 => ?_, fun c4 => ?_⟩
    · have h := h.1 c4
      refine x_ls (ls' := [(0, .ref 336), (1, .ref a1), (2, .long v2), (4, .int v4)]) [0, 1, 2, 3] rfl ?_
      exact hK59 v2 h
    · have h := h.2 c4
      refine x_lload_n dX10_lacksBySpares_30 rfl ?_
      refine x_aload_n dX10_lacksBySpares_31 rfl ?_
      refine x_iload dX10_lacksBySpares_32 rfl ?_
      refine x_iload dX10_lacksBySpares_34 rfl ?_
      refine x_cSi00 [.int v4, .int v5] (mt_X10_cellOf hn hG h) dX10_lacksBySpares_36 lk_RX10_104 rfl rfl (Nat.le_of_ble_eq_true rfl) (Rf_of rfl) (fun x5 h => ?_)
      refine x_aload_n dX10_lacksBySpares_39 rfl ?_
      refine x_iload dX10_lacksBySpares_40 rfl ?_
      refine x_iload dX10_lacksBySpares_42 rfl ?_
      refine x_cSi00 [.int v4, .int v5] (mt_X10_cellOf hn hG h) dX10_lacksBySpares_44 lk_RX10_104 rfl rfl (Nat.le_of_ble_eq_true rfl) (Rf_of rfl) (fun x6 h => ?_)
      obtain ⟨b7, h⟩ := h
      refine x_iaload dX10_lacksBySpares_47 ha1.1 ha1.2 b7 ?_
      refine x_cVl00 [.int x5, .int (I a1 (ix x6))] (mt_X10_lackOf hn hG h) dX10_lacksBySpares_48 lk_RX10_257 (km rfl hn) sh_336 rfl rfl (Nat.le_of_ble_eq_true rfl) (Rf_of rfl) (fun x8 h => ?_)
      refine x_ladd dX10_lacksBySpares_51 ?_
      refine x_lstore_n (ls' := [(2, .long (v2 + x8)), (0, .ref 336), (1, .ref a1), (4, .int v4), (5, .int v5)]) dX10_lacksBySpares_52 (Nat.le_of_ble_eq_true rfl) rfl ?_
      refine x_iinc (v := v5 + 1) (ls' := [(5, .int (v5 + 1)), (2, .long (v2 + x8)), (0, .ref 336), (1, .ref a1), (4, .int v4)]) dX10_lacksBySpares_53 rfl (congrArg (_ + ·) ki_1) (Nat.le_of_ble_eq_true rfl) rfl ?_
      refine x_goto dX10_lacksBySpares_56 (tgt := 19) rfl ?_
      refine x_ls (ls' := [(0, .ref 336), (1, .ref a1), (2, .long (v2 + x8)), (4, .int v4), (5, .int (v5 + 1))]) [2, 3, 1, 4, 0] rfl ?_
      exact ih (v2 + x8) (v5 + 1) h
def lp_X10_lacksBySpares_5 (a1 N1 : Nat) (I : MI) (Q : Int64 → Prop) : Nat → Int64 → Int32 → Prop
  | 0, _, _ => False
  | n + 1, v2, v4 =>
    (vp_in 1 2212 ∧ (((I 337 (ix 1)) ≤ v4 → Q v2) ∧ (¬ (I 337 (ix 1)) ≤ v4 → (∃ N9, lp_X10_lacksBySpares_19 a1 N1 I v4 (fun x10 => (lp_X10_lacksBySpares_5 a1 N1 I Q n x10 (v4 + 1))) N9 v2 0))))
set_option maxRecDepth 20000 in
theorem lpt_X10_lacksBySpares_5 {E : Ev} {l : Launch} {n : Nat} {R : MR} {a1 N1 : Nat} (hn : 349 ≤ n) (hG : GRm R) (ha1 : a1 < n ∧ sh a1 = .inr (0, N1)) {Q : Int64 → Prop} {I : MI} {L : ML} : ∀ (N : Nat) (v2 : Int64) (v4 : Int32), lp_X10_lacksBySpares_5 a1 N1 I Q N v2 v4 → X E l rm_X10_lacksBySpares yX10_lacksBySpares cX10_lacksBySpares 6 (some .long) noX (ZM E rm_X10_lacksBySpares (Ql n R (P00 I L Q))) 5 [(0, .ref 336), (1, .ref a1), (2, .long v2), (4, .int v4)] [] n I L R 0 0 := by
  intro N
  induction N with
  | zero => intro v2 v4 h; exact False.elim h
  | succ N ih =>
    intro v2 v4 h
    unfold lp_X10_lacksBySpares_5 at h
    refine x_iload dX10_lacksBySpares_5 rfl ?_
    refine x_aload_n dX10_lacksBySpares_7 rfl ?_
    refine x_getr (j := 337) dX10_lacksBySpares_8 fk_RX10_7 (km rfl hn) sh_336 (rt_336_1 hG) ?_
    refine x_iconst (v := 1) dX10_lacksBySpares_11 ki_1 ?_
    obtain ⟨b1, h⟩ := h
    refine x_iaload dX10_lacksBySpares_12 (km rfl hn) sh_337 b1 ?_
    refine x_icmp_ge dX10_lacksBySpares_13 (tgt := 65) rfl ⟨fun c2 => ?_, fun c2 => ?_⟩
    · have h := h.1 c2
      refine x_lload_n dX10_lacksBySpares_65 rfl ?_
      exact x_lreturn dX10_lacksBySpares_66 ⟨_, rfl, rfl, rfl, rfl, rfl, h⟩
    · have h := h.2 c2
      refine x_iconst (v := 0) dX10_lacksBySpares_16 ki_0 ?_
      refine x_istore (ls' := [(5, .int 0), (0, .ref 336), (1, .ref a1), (2, .long v2), (4, .int v4)]) dX10_lacksBySpares_17 (Nat.le_of_ble_eq_true rfl) rfl ?_
      refine x_ls (ls' := [(0, .ref 336), (1, .ref a1), (2, .long v2), (4, .int v4), (5, .int 0)]) [1, 2, 3, 4, 0] rfl ?_
      obtain ⟨N9, h⟩ := h
      refine lpt_X10_lacksBySpares_19 hn hG ha1 (fun x10 h => ?_) N9 v2 0 h
      refine x_iinc (v := v4 + 1) (ls' := [(4, .int (v4 + 1)), (0, .ref 336), (1, .ref a1), (2, .long x10)]) dX10_lacksBySpares_59 rfl (congrArg (_ + ·) ki_1) (Nat.le_of_ble_eq_true rfl) rfl ?_
      refine x_goto dX10_lacksBySpares_62 (tgt := 5) rfl ?_
      refine x_ls (ls' := [(0, .ref 336), (1, .ref a1), (2, .long x10), (4, .int (v4 + 1))]) [1, 2, 3, 0] rfl ?_
      exact ih x10 (v4 + 1) h
def wp_X10_lacksBySpares (a1 N1 : Nat) (I : MI) (Q : Int64 → Prop) : Prop :=
    (∃ N11, lp_X10_lacksBySpares_5 a1 N1 I Q N11 0 0)
set_option maxRecDepth 20000 in
theorem mt_X10_lacksBySpares {E : Ev} {l : Launch} {n : Nat} {R : MR} {a1 N1 : Nat} (hn : 349 ≤ n) (hG : GRm R) (ha1 : a1 < n ∧ sh a1 = .inr (0, N1)) {I : MI} {L : ML} {Q : Int64 → Prop} (h : wp_X10_lacksBySpares a1 N1 I Q) : MX E l rm_X10_lacksBySpares yX10_lacksBySpares cX10_lacksBySpares 6 (some .long) [.ref 336, .ref a1] n I L R (Ql n R (P00 I L Q)) := by
  refine MX_of (ls := [(0, .ref 336), (1, .ref a1)]) (by decide) (Nat.le_of_ble_eq_true rfl) rfl ?_
  unfold wp_X10_lacksBySpares at h
  refine x_lconst (v := 0) dX10_lacksBySpares_0 rfl ?_
  refine x_lstore_n (ls' := [(2, .long 0), (0, .ref 336), (1, .ref a1)]) dX10_lacksBySpares_1 (Nat.le_of_ble_eq_true rfl) rfl ?_
  refine x_iconst (v := 0) dX10_lacksBySpares_2 ki_0 ?_
  refine x_istore (ls' := [(4, .int 0), (2, .long 0), (0, .ref 336), (1, .ref a1)]) dX10_lacksBySpares_3 (Nat.le_of_ble_eq_true rfl) rfl ?_
  refine x_ls (ls' := [(0, .ref 336), (1, .ref a1), (2, .long 0), (4, .int 0)]) [2, 3, 1, 0] rfl ?_
  obtain ⟨N11, h⟩ := h
  exact lpt_X10_lacksBySpares_5 hn hG ha1  N11 0 0 h
abbrev rm_X10_lacks : Room := { frames := 4, cells := 0, slots := 0, locals := 101 }
def lp_X10_lacks_2 (kf29 : MI → Prop) : Nat → Int32 → MI → Prop
  | 0, _, _ => False
  | n + 1, v1, I =>
    ((9 ≤ v1 → kf29 I) ∧ (¬ 9 ≤ v1 → (vp_in (50 + v1) 2212 ∧ (vp_in v1 9 ∧ (∀ I4, I4 = u2 I 344 (ix v1) (I 337 (ix (50 + v1))) → (lp_X10_lacks_2 kf29 n (v1 + 1) I4))))))
set_option maxRecDepth 20000 in
theorem lpt_X10_lacks_2 {E : Ev} {l : Launch} {n : Nat} {R : MR} (hn : 349 ≤ n) (hG : GRm R) {I0 : MI} {Q : Int64 → MI → Prop} {L : ML} {kf29 : MI → Prop}
    (hK29 : ∀ (I : MI), kf29 I → X E l rm_X10_lacks yX10_lacks cX10_lacks 2 (some .long) noX (ZM E rm_X10_lacks (Ql n R (P10 I0 L Q))) 29 [(0, .ref 336)] [] n I L R 0 0) : ∀ (N : Nat) (v1 : Int32) (I : MI), lp_X10_lacks_2 kf29 N v1 I → X E l rm_X10_lacks yX10_lacks cX10_lacks 2 (some .long) noX (ZM E rm_X10_lacks (Ql n R (P10 I0 L Q))) 2 [(0, .ref 336), (1, .int v1)] [] n I L R 0 0 := by
  intro N
  induction N with
  | zero => intro v1 I h; exact False.elim h
  | succ N ih =>
    intro v1 I h
    unfold lp_X10_lacks_2 at h
    refine x_iload_n dX10_lacks_2 rfl ?_
    refine x_bipush (v := 9) dX10_lacks_3 kb_9 ?_
    refine x_icmp_ge dX10_lacks_5 (tgt := 29) rfl ⟨fun c1 => ?_, fun c1 => ?_⟩
    · have h := h.1 c1
      refine x_ls (ls' := [(0, .ref 336)]) [0] rfl ?_
      exact hK29 I h
    · have h := h.2 c1
      refine x_aload_n dX10_lacks_8 rfl ?_
      refine x_getr (j := 344) dX10_lacks_9 fk_RX10_31 (km rfl hn) sh_336 (rt_336_17 hG) ?_
      refine x_iload_n dX10_lacks_12 rfl ?_
      refine x_aload_n dX10_lacks_13 rfl ?_
      refine x_getr (j := 337) dX10_lacks_14 fk_RX10_7 (km rfl hn) sh_336 (rt_336_1 hG) ?_
      refine x_bipush (v := 50) dX10_lacks_17 kb_50 ?_
      refine x_iload_n dX10_lacks_19 rfl ?_
      refine x_iadd dX10_lacks_20 ?_
      obtain ⟨b2, h⟩ := h
      refine x_iaload dX10_lacks_21 (km rfl hn) sh_337 b2 ?_
      obtain ⟨b3, h⟩ := h
      refine x_iastore dX10_lacks_22 (km rfl hn) sh_344 b3 (fun I4 eI4 => ?_)
      have h := h I4 eI4
      refine x_iinc (v := v1 + 1) (ls' := [(1, .int (v1 + 1)), (0, .ref 336)]) dX10_lacks_23 rfl (congrArg (_ + ·) ki_1) (Nat.le_of_ble_eq_true rfl) rfl ?_
      refine x_goto dX10_lacks_26 (tgt := 2) rfl ?_
      refine x_ls (ls' := [(0, .ref 336), (1, .int (v1 + 1))]) [1, 0] rfl ?_
      exact ih (v1 + 1) I4 h
def wp_X10_lacks (I : MI) (Q : Int64 → MI → Prop) : Prop :=
    (∃ N5, lp_X10_lacks_2 (fun I6 => (wp_X10_lacksBySpares 344 9 I6 (fun x7 => (Q x7 I6)))) N5 0 I)
set_option maxRecDepth 20000 in
theorem mt_X10_lacks {E : Ev} {l : Launch} {n : Nat} {R : MR} (hn : 349 ≤ n) (hG : GRm R) {I : MI} {L : ML} {Q : Int64 → MI → Prop} (h : wp_X10_lacks I Q) : MX E l rm_X10_lacks yX10_lacks cX10_lacks 2 (some .long) [.ref 336] n I L R (Ql n R (P10 I L Q)) := by
  refine MX_of (ls := [(0, .ref 336)]) (by decide) (Nat.le_of_ble_eq_true rfl) rfl ?_
  unfold wp_X10_lacks at h
  refine x_iconst (v := 0) dX10_lacks_0 ki_0 ?_
  refine x_istore_n (ls' := [(1, .int 0), (0, .ref 336)]) dX10_lacks_1 (Nat.le_of_ble_eq_true rfl) rfl ?_
  refine x_ls (ls' := [(0, .ref 336), (1, .int 0)]) [1, 0] rfl ?_
  obtain ⟨N5, h⟩ := h
  refine lpt_X10_lacks_2 hn hG (fun I6 h => ?_) N5 0 I h
  refine x_aload_n dX10_lacks_29 rfl ?_
  refine x_aload_n dX10_lacks_30 rfl ?_
  refine x_getr (j := 344) dX10_lacks_31 fk_RX10_31 (km rfl hn) sh_336 (rt_336_17 hG) ?_
  refine x_cVl00 [.ref 344] (mt_X10_lacksBySpares hn hG ⟨(km rfl hn), sh_344⟩ h) dX10_lacks_34 lk_RX10_260 (km rfl hn) sh_336 rfl rfl (Nat.le_of_ble_eq_true rfl) (Rf_of rfl) (fun x7 h => ?_)
  exact x_lreturn dX10_lacks_37 ⟨_, rfl, rfl, rfl, rfl, h⟩
abbrev rm_X10_lacksBy : Room := { frames := 7, cells := 0, slots := 0, locals := 165 }
def wp_X10_lacksBy (I : MI) (L : ML) (v1 : Int32) (v2 : Int32) (Q : Int64 → MI → ML → Prop) : Prop :=
    (wp_X10_isIn v1 0 99 (fun x1 => (((¬ x1 = 0 → ((v2 = 0 → (wp_X10_layBought I v1 (fun x4 I5 => ((wp_X10_lacksBySpares 344 9 I5 (fun x6 => (Q x6 I5 L))))))) ∧ (¬ v2 = 0 → (wp_X10_layBest I L (fun I7 L8 => ((vp_in v1 1000 ∧ Q (L8 345 (ix v1)) I7 L8))))))) ∧ (x1 = 0 → Q (-1) I L)))))
set_option maxRecDepth 20000 in
theorem mt_X10_lacksBy {E : Ev} {l : Launch} {n : Nat} {R : MR} (hn : 349 ≤ n) (hG : GRm R) {I : MI} {L : ML} {v1 : Int32} {v2 : Int32} {Q : Int64 → MI → ML → Prop} (h : wp_X10_lacksBy I L v1 v2 Q) : MX E l rm_X10_lacksBy yX10_lacksBy cX10_lacksBy 4 (some .long) [.ref 336, .int v1, .int v2] n I L R (Ql n R (P11 I L Q)) := by
  refine MX_of (ls := [(0, .ref 336), (1, .int v1), (2, .int v2)]) (by decide) (Nat.le_of_ble_eq_true rfl) rfl ?_
  unfold wp_X10_lacksBy at h
  refine x_iload_n dX10_lacksBy_0 rfl ?_
  refine x_iconst (v := 0) dX10_lacksBy_1 ki_0 ?_
  refine x_bipush (v := 99) dX10_lacksBy_2 kb_99 ?_
  refine x_cSi00 [.int v1, .int 0, .int 99] (mt_X10_isIn hn hG h) dX10_lacksBy_4 lk_RX10_51 rfl rfl (Nat.le_of_ble_eq_true rfl) (Rf_of rfl) (fun x1 h => ?_)
  refine x_if_ne dX10_lacksBy_7 (tgt := 14) rfl ⟨fun c2 => ?_, fun c2 => ?_⟩
  · have h := h.1 c2
    refine x_iload_n dX10_lacksBy_14 rfl ?_
    refine x_if_eq dX10_lacksBy_15 (tgt := 29) rfl ⟨fun c3 => ?_, fun c3 => ?_⟩
    · have h := h.1 c3
      refine x_aload_n dX10_lacksBy_29 rfl ?_
      refine x_iload_n dX10_lacksBy_30 rfl ?_
      refine x_cVi10 [.int v1] (mt_X10_layBought hn hG h) dX10_lacksBy_31 lk_RX10_281 (km rfl hn) sh_336 rfl rfl (Nat.le_of_ble_eq_true rfl) (Rf_of rfl) (fun x4 I5 h => ?_)
      refine x_istore_n (ls' := [(3, .int x4), (0, .ref 336), (1, .int v1), (2, .int v2)]) dX10_lacksBy_34 (Nat.le_of_ble_eq_true rfl) rfl ?_
      refine x_aload_n dX10_lacksBy_35 rfl ?_
      refine x_aload_n dX10_lacksBy_36 rfl ?_
      refine x_getr (j := 344) dX10_lacksBy_37 fk_RX10_31 (km rfl hn) sh_336 (rt_336_17 hG) ?_
      refine x_cVl00 [.ref 344] (mt_X10_lacksBySpares hn hG ⟨(km rfl hn), sh_344⟩ h) dX10_lacksBy_40 lk_RX10_260 (km rfl hn) sh_336 rfl rfl (Nat.le_of_ble_eq_true rfl) (Rf_of rfl) (fun x6 h => ?_)
      exact x_lreturn dX10_lacksBy_43 ⟨_, rfl, rfl, rfl, h⟩
    · have h := h.2 c3
      refine x_aload_n dX10_lacksBy_18 rfl ?_
      refine x_cVv11 [] (mt_X10_layBest hn hG h) dX10_lacksBy_19 lk_RX10_284 (km rfl hn) sh_336 rfl rfl (Nat.le_of_ble_eq_true rfl) (Rf_of rfl) (fun I7 L8 h => ?_)
      refine x_aload_n dX10_lacksBy_22 rfl ?_
      refine x_getr (j := 345) dX10_lacksBy_23 fk_RX10_34 (km rfl hn) sh_336 (rt_336_19 hG) ?_
      refine x_iload_n dX10_lacksBy_26 rfl ?_
      obtain ⟨b9, h⟩ := h
      refine x_laload dX10_lacksBy_27 (km rfl hn) sh_345 b9 ?_
      exact x_lreturn dX10_lacksBy_28 ⟨_, rfl, rfl, rfl, h⟩
  · have h := h.2 c2
    refine x_ldc2 (v := -1) dX10_lacksBy_10 kc_RX10_255 ?_
    exact x_lreturn dX10_lacksBy_13 ⟨_, rfl, rfl, rfl, h⟩
abbrev rm_X10_out : Room := { frames := 3, cells := 0, slots := 0, locals := 65 }
def wp_X10_out (I : MI) (v1 : Int32) (v2 : Int32) (v3 : Int32) (Q : Int64 → Prop) : Prop :=
    (wp_X10_isCell I v1 v2 (fun x1 => (((x1 = 0 → Q (-1)) ∧ (¬ x1 = 0 → (wp_X10_isIn v3 0 8 (fun x3 => (((x3 = 0 → Q (-1)) ∧ (¬ x3 = 0 → (wp_X10_cellOf v1 v2 (fun x5 => ((wp_X10_outOf I x5 v3 (fun x6 => (Q x6))))))))))))))))
set_option maxRecDepth 20000 in
theorem mt_X10_out {E : Ev} {l : Launch} {n : Nat} {R : MR} (hn : 349 ≤ n) (hG : GRm R) {I : MI} {L : ML} {v1 : Int32} {v2 : Int32} {v3 : Int32} {Q : Int64 → Prop} (h : wp_X10_out I v1 v2 v3 Q) : MX E l rm_X10_out yX10_out cX10_out 4 (some .long) [.ref 336, .int v1, .int v2, .int v3] n I L R (Ql n R (P00 I L Q)) := by
  refine MX_of (ls := [(0, .ref 336), (1, .int v1), (2, .int v2), (3, .int v3)]) (by decide) (Nat.le_of_ble_eq_true rfl) rfl ?_
  unfold wp_X10_out at h
  refine x_aload_n dX10_out_0 rfl ?_
  refine x_iload_n dX10_out_1 rfl ?_
  refine x_iload_n dX10_out_2 rfl ?_
  refine x_cVi00 [.int v1, .int v2] (mt_X10_isCell hn hG h) dX10_out_3 lk_RX10_211 (km rfl hn) sh_336 rfl rfl (Nat.le_of_ble_eq_true rfl) (Rf_of rfl) (fun x1 h => ?_)
  refine x_if_eq dX10_out_6 (tgt := 32) rfl ⟨fun c2 => ?_, fun c2 => ?_⟩
  · have h := h.1 c2
    refine x_ldc2 (v := -1) dX10_out_32 kc_RX10_255 ?_
    exact x_lreturn dX10_out_35 ⟨_, rfl, rfl, rfl, rfl, rfl, h⟩
  · have h := h.2 c2
    refine x_iload_n dX10_out_9 rfl ?_
    refine x_iconst (v := 0) dX10_out_10 ki_0 ?_
    refine x_bipush (v := 8) dX10_out_11 kb_8 ?_
    refine x_cSi00 [.int v3, .int 0, .int 8] (mt_X10_isIn hn hG h) dX10_out_13 lk_RX10_51 rfl rfl (Nat.le_of_ble_eq_true rfl) (Rf_of rfl) (fun x3 h => ?_)
    refine x_if_eq dX10_out_16 (tgt := 32) rfl ⟨fun c4 => ?_, fun c4 => ?_⟩
    · have h := h.1 c4
      refine x_ldc2 (v := -1) dX10_out_32 kc_RX10_255 ?_
      exact x_lreturn dX10_out_35 ⟨_, rfl, rfl, rfl, rfl, rfl, h⟩
    · have h := h.2 c4
      refine x_aload_n dX10_out_19 rfl ?_
      refine x_iload_n dX10_out_20 rfl ?_
      refine x_iload_n dX10_out_21 rfl ?_
      refine x_cSi00 [.int v1, .int v2] (mt_X10_cellOf hn hG h) dX10_out_22 lk_RX10_104 rfl rfl (Nat.le_of_ble_eq_true rfl) (Rf_of rfl) (fun x5 h => ?_)
      refine x_iload_n dX10_out_25 rfl ?_
      refine x_cVl00 [.int x5, .int v3] (mt_X10_outOf hn hG h) dX10_out_26 lk_RX10_251 (km rfl hn) sh_336 rfl rfl (Nat.le_of_ble_eq_true rfl) (Rf_of rfl) (fun x6 h => ?_)
      refine x_goto dX10_out_29 (tgt := 35) rfl ?_
      exact x_lreturn dX10_out_35 ⟨_, rfl, rfl, rfl, rfl, rfl, h⟩
abbrev rm_X10_purseFor : Room := { frames := 4, cells := 0, slots := 0, locals := 106 }
def lp_X10_purseFor_18 (kf37 : MI → Prop) : Nat → Int32 → MI → Prop
  | 0, _, _ => False
  | n + 1, v2, I =>
    ((9 ≤ v2 → kf37 I) ∧ (¬ 9 ≤ v2 → (vp_in v2 9 ∧ (∀ I7, I7 = u2 I 344 (ix v2) 0 → (lp_X10_purseFor_18 kf37 n (v2 + 1) I7)))))
set_option maxRecDepth 20000 in
theorem lpt_X10_purseFor_18 {E : Ev} {l : Launch} {n : Nat} {R : MR} (hn : 349 ≤ n) (hG : GRm R) {I0 : MI} {L0 : ML} {Q : Int32 → MI → ML → Prop} {L : ML} {v1 : Int32} {kf37 : MI → Prop}
    (hK37 : ∀ (I : MI), kf37 I → X E l rm_X10_purseFor yX10_purseFor cX10_purseFor 5 (some .int) noX (ZM E rm_X10_purseFor (Qi n R (P11 I0 L0 Q))) 37 [(0, .ref 336), (1, .int v1)] [] n I L R 0 0) : ∀ (N : Nat) (v2 : Int32) (I : MI), lp_X10_purseFor_18 kf37 N v2 I → X E l rm_X10_purseFor yX10_purseFor cX10_purseFor 5 (some .int) noX (ZM E rm_X10_purseFor (Qi n R (P11 I0 L0 Q))) 18 [(0, .ref 336), (1, .int v1), (2, .int v2)] [] n I L R 0 0 := by
  intro N
  induction N with
  | zero => intro v2 I h; exact False.elim h
  | succ N ih =>
    intro v2 I h
    unfold lp_X10_purseFor_18 at h
    refine x_iload_n dX10_purseFor_18 rfl ?_
    refine x_bipush (v := 9) dX10_purseFor_19 kb_9 ?_
    refine x_icmp_ge dX10_purseFor_21 (tgt := 37) rfl ⟨fun c5 => ?_, fun c5 => ?_⟩
    · have h := h.1 c5
      refine x_ls (ls' := [(0, .ref 336), (1, .int v1)]) [0, 1] rfl ?_
      exact hK37 I h
    · have h := h.2 c5
      refine x_aload_n dX10_purseFor_24 rfl ?_
      refine x_getr (j := 344) dX10_purseFor_25 fk_RX10_31 (km rfl hn) sh_336 (rt_336_17 hG) ?_
      refine x_iload_n dX10_purseFor_28 rfl ?_
      refine x_iconst (v := 0) dX10_purseFor_29 ki_0 ?_
      obtain ⟨b6, h⟩ := h
      refine x_iastore dX10_purseFor_30 (km rfl hn) sh_344 b6 (fun I7 eI7 => ?_)
      have h := h I7 eI7
      refine x_iinc (v := v2 + 1) (ls' := [(2, .int (v2 + 1)), (0, .ref 336), (1, .int v1)]) dX10_purseFor_31 rfl (congrArg (_ + ·) ki_1) (Nat.le_of_ble_eq_true rfl) rfl ?_
      refine x_goto dX10_purseFor_34 (tgt := 18) rfl ?_
      refine x_ls (ls' := [(0, .ref 336), (1, .int v1), (2, .int (v2 + 1))]) [1, 2, 0] rfl ?_
      exact ih (v2 + 1) I7 h
def lp_X10_purseFor_49 (I : MI) (L : ML) (v1 : Int32) (v2 : Int64) (Q : Int32 → MI → ML → Prop) : Nat → Int32 → Prop
  | 0, _ => False
  | n + 1, v4 =>
    ((100 ≤ v4 → Q (-2) I L) ∧ (¬ 100 ≤ v4 → (vp_in v4 1000 ∧ ((0 < (lg_cmp (100 * (L 345 (ix v4))) (v1.toInt64 * v2)) → (lp_X10_purseFor_49 I L v1 v2 Q n (v4 + 1))) ∧ (¬ 0 < (lg_cmp (100 * (L 345 (ix v4))) (v1.toInt64 * v2)) → Q v4 I L)))))
set_option maxRecDepth 20000 in
theorem lpt_X10_purseFor_49 {E : Ev} {l : Launch} {n : Nat} {R : MR} (hn : 349 ≤ n) (hG : GRm R) {I0 : MI} {L0 : ML} {Q : Int32 → MI → ML → Prop} {I : MI} {L : ML} {v1 : Int32} {v2 : Int64} : ∀ (N : Nat) (v4 : Int32), lp_X10_purseFor_49 I L v1 v2 Q N v4 → X E l rm_X10_purseFor yX10_purseFor cX10_purseFor 5 (some .int) noX (ZM E rm_X10_purseFor (Qi n R (P11 I0 L0 Q))) 49 [(0, .ref 336), (1, .int v1), (2, .long v2), (4, .int v4)] [] n I L R 0 0 := by
  intro N
  induction N with
  | zero => intro v4 h; exact False.elim h
  | succ N ih =>
    intro v4 h
    unfold lp_X10_purseFor_49 at h
    refine x_iload dX10_purseFor_49 rfl ?_
    refine x_bipush (v := 100) dX10_purseFor_51 kb_100 ?_
    refine x_icmp_ge dX10_purseFor_53 (tgt := 84) rfl ⟨fun c11 => ?_, fun c11 => ?_⟩
    · have h := h.1 c11
      refine x_bipush (v := (-2)) dX10_purseFor_84 kb_m2 ?_
      exact x_ireturn dX10_purseFor_86 ⟨_, rfl, rfl, rfl, h⟩
    · have h := h.2 c11
      refine x_ldc2 (v := 100) dX10_purseFor_56 kc_RX10_264 ?_
      refine x_aload_n dX10_purseFor_59 rfl ?_
      refine x_getr (j := 345) dX10_purseFor_60 fk_RX10_34 (km rfl hn) sh_336 (rt_336_19 hG) ?_
      refine x_iload dX10_purseFor_63 rfl ?_
      obtain ⟨b12, h⟩ := h
      refine x_laload dX10_purseFor_65 (km rfl hn) sh_345 b12 ?_
      refine x_lmul dX10_purseFor_66 ?_
      refine x_iload_n dX10_purseFor_67 rfl ?_
      refine x_i2l dX10_purseFor_68 ?_
      refine x_lload_n dX10_purseFor_69 rfl ?_
      refine x_lmul dX10_purseFor_70 ?_
      refine x_lcmp dX10_purseFor_71 ?_
      refine x_if_gt dX10_purseFor_72 (tgt := 78) rfl ⟨fun c13 => ?_, fun c13 => ?_⟩
      · have h := h.1 c13
        refine x_iinc (v := v4 + 1) (ls' := [(4, .int (v4 + 1)), (0, .ref 336), (1, .int v1), (2, .long v2)]) dX10_purseFor_78 rfl (congrArg (_ + ·) ki_1) (Nat.le_of_ble_eq_true rfl) rfl ?_
        refine x_goto dX10_purseFor_81 (tgt := 49) rfl ?_
        refine x_ls (ls' := [(0, .ref 336), (1, .int v1), (2, .long v2), (4, .int (v4 + 1))]) [1, 2, 3, 0] rfl ?_
        exact ih (v4 + 1) h
      · have h := h.2 c13
        refine x_iload dX10_purseFor_75 rfl ?_
        exact x_ireturn dX10_purseFor_77 ⟨_, rfl, rfl, rfl, h⟩
def wp_X10_purseFor (I : MI) (L : ML) (v1 : Int32) (Q : Int32 → MI → ML → Prop) : Prop :=
    (wp_X10_isIn v1 0 100 (fun x1 => (((¬ x1 = 0 → (wp_X10_layBest I L (fun I3 L4 => ((∃ N8, lp_X10_purseFor_18 (fun I9 => (wp_X10_lacksBySpares 344 9 I9 (fun x10 => ((∃ N14, lp_X10_purseFor_49 I9 L4 v1 x10 Q N14 0))))) N8 0 I3))))) ∧ (x1 = 0 → Q (-1) I L)))))
set_option maxRecDepth 20000 in
theorem mt_X10_purseFor {E : Ev} {l : Launch} {n : Nat} {R : MR} (hn : 349 ≤ n) (hG : GRm R) {I : MI} {L : ML} {v1 : Int32} {Q : Int32 → MI → ML → Prop} (h : wp_X10_purseFor I L v1 Q) : MX E l rm_X10_purseFor yX10_purseFor cX10_purseFor 5 (some .int) [.ref 336, .int v1] n I L R (Qi n R (P11 I L Q)) := by
  refine MX_of (ls := [(0, .ref 336), (1, .int v1)]) (by decide) (Nat.le_of_ble_eq_true rfl) rfl ?_
  unfold wp_X10_purseFor at h
  refine x_iload_n dX10_purseFor_0 rfl ?_
  refine x_iconst (v := 0) dX10_purseFor_1 ki_0 ?_
  refine x_bipush (v := 100) dX10_purseFor_2 kb_100 ?_
  refine x_cSi00 [.int v1, .int 0, .int 100] (mt_X10_isIn hn hG h) dX10_purseFor_4 lk_RX10_51 rfl rfl (Nat.le_of_ble_eq_true rfl) (Rf_of rfl) (fun x1 h => ?_)
  refine x_if_ne dX10_purseFor_7 (tgt := 12) rfl ⟨fun c2 => ?_, fun c2 => ?_⟩
  · have h := h.1 c2
    refine x_aload_n dX10_purseFor_12 rfl ?_
    refine x_cVv11 [] (mt_X10_layBest hn hG h) dX10_purseFor_13 lk_RX10_284 (km rfl hn) sh_336 rfl rfl (Nat.le_of_ble_eq_true rfl) (Rf_of rfl) (fun I3 L4 h => ?_)
    refine x_iconst (v := 0) dX10_purseFor_16 ki_0 ?_
    refine x_istore_n (ls' := [(2, .int 0), (0, .ref 336), (1, .int v1)]) dX10_purseFor_17 (Nat.le_of_ble_eq_true rfl) rfl ?_
    refine x_ls (ls' := [(0, .ref 336), (1, .int v1), (2, .int 0)]) [1, 2, 0] rfl ?_
    obtain ⟨N8, h⟩ := h
    refine lpt_X10_purseFor_18 hn hG (fun I9 h => ?_) N8 0 I3 h
    refine x_aload_n dX10_purseFor_37 rfl ?_
    refine x_aload_n dX10_purseFor_38 rfl ?_
    refine x_getr (j := 344) dX10_purseFor_39 fk_RX10_31 (km rfl hn) sh_336 (rt_336_17 hG) ?_
    refine x_cVl00 [.ref 344] (mt_X10_lacksBySpares hn hG ⟨(km rfl hn), sh_344⟩ h) dX10_purseFor_42 lk_RX10_260 (km rfl hn) sh_336 rfl rfl (Nat.le_of_ble_eq_true rfl) (Rf_of rfl) (fun x10 h => ?_)
    refine x_lstore_n (ls' := [(2, .long x10), (0, .ref 336), (1, .int v1)]) dX10_purseFor_45 (Nat.le_of_ble_eq_true rfl) rfl ?_
    refine x_iconst (v := 0) dX10_purseFor_46 ki_0 ?_
    refine x_istore (ls' := [(4, .int 0), (2, .long x10), (0, .ref 336), (1, .int v1)]) dX10_purseFor_47 (Nat.le_of_ble_eq_true rfl) rfl ?_
    refine x_ls (ls' := [(0, .ref 336), (1, .int v1), (2, .long x10), (4, .int 0)]) [2, 3, 1, 0] rfl ?_
    obtain ⟨N14, h⟩ := h
    exact lpt_X10_purseFor_49 hn hG  N14 0 h
  · have h := h.2 c2
    refine x_iconst (v := (-1)) dX10_purseFor_10 ki_m1 ?_
    exact x_ireturn dX10_purseFor_11 ⟨_, rfl, rfl, rfl, h⟩
abbrev rm_X10_sure : Room := { frames := 3, cells := 0, slots := 0, locals := 65 }
def lp_X10_sure_36 (I : MI) (v1 : Int32) (v2 : Int32) (v3 : Int32) (Q : Int32 → Prop) : Nat → Int32 → Int64 → Prop
  | 0, _, _ => False
  | n + 1, v4, v5 =>
    ((0 ≤ (lg_cmp (100 * v5) (v3.toInt64 * 429981696)) → Q v4) ∧ (¬ 0 ≤ (lg_cmp (100 * v5) (v3.toInt64 * 429981696)) → (wp_X10_cellOf v1 v2 (fun x8 => ((wp_X10_outOf I x8 (v4 + 1) (fun x9 => ((lp_X10_sure_36 I v1 v2 v3 Q n (v4 + 1) (v5 + x9))))))))))
set_option maxRecDepth 20000 in
theorem lpt_X10_sure_36 {E : Ev} {l : Launch} {n : Nat} {R : MR} (hn : 349 ≤ n) (hG : GRm R) {Q : Int32 → Prop} {v1 : Int32} {v2 : Int32} {v3 : Int32} {I : MI} {L : ML} : ∀ (N : Nat) (v4 : Int32) (v5 : Int64), lp_X10_sure_36 I v1 v2 v3 Q N v4 v5 → X E l rm_X10_sure yX10_sure cX10_sure 7 (some .int) noX (ZM E rm_X10_sure (Qi n R (P00 I L Q))) 36 [(0, .ref 336), (1, .int v1), (2, .int v2), (3, .int v3), (4, .int v4), (5, .long v5)] [] n I L R 0 0 := by
  intro N
  induction N with
  | zero => intro v4 v5 h; exact False.elim h
  | succ N ih =>
    intro v4 v5 h
    unfold lp_X10_sure_36 at h
    refine x_ldc2 (v := 100) dX10_sure_36 kc_RX10_264 ?_
    refine x_lload dX10_sure_39 rfl ?_
    refine x_lmul dX10_sure_41 ?_
    refine x_iload_n dX10_sure_42 rfl ?_
    refine x_i2l dX10_sure_43 ?_
    refine x_ldc2 (v := 429981696) dX10_sure_44 kc_RX10_266 ?_
    refine x_lmul dX10_sure_47 ?_
    refine x_lcmp dX10_sure_48 ?_
    refine x_if_ge dX10_sure_49 (tgt := 74) rfl ⟨fun c7 => ?_, fun c7 => ?_⟩
    · have h := h.1 c7
      refine x_iload dX10_sure_74 rfl ?_
      exact x_ireturn dX10_sure_76 ⟨_, rfl, rfl, rfl, rfl, rfl, h⟩
    · have h := h.2 c7
      refine x_iinc (v := v4 + 1) (ls' := [(4, .int (v4 + 1)), (0, .ref 336), (1, .int v1), (2, .int v2), (3, .int v3), (5, .long v5)]) dX10_sure_52 rfl (congrArg (_ + ·) ki_1) (Nat.le_of_ble_eq_true rfl) rfl ?_
      refine x_lload dX10_sure_55 rfl ?_
      refine x_aload_n dX10_sure_57 rfl ?_
      refine x_iload_n dX10_sure_58 rfl ?_
      refine x_iload_n dX10_sure_59 rfl ?_
      refine x_cSi00 [.int v1, .int v2] (mt_X10_cellOf hn hG h) dX10_sure_60 lk_RX10_104 rfl rfl (Nat.le_of_ble_eq_true rfl) (Rf_of rfl) (fun x8 h => ?_)
      refine x_iload dX10_sure_63 rfl ?_
      refine x_cVl00 [.int x8, .int (v4 + 1)] (mt_X10_outOf hn hG h) dX10_sure_65 lk_RX10_251 (km rfl hn) sh_336 rfl rfl (Nat.le_of_ble_eq_true rfl) (Rf_of rfl) (fun x9 h => ?_)
      refine x_ladd dX10_sure_68 ?_
      refine x_lstore (ls' := [(5, .long (v5 + x9)), (4, .int (v4 + 1)), (0, .ref 336), (1, .int v1), (2, .int v2), (3, .int v3)]) dX10_sure_69 (Nat.le_of_ble_eq_true rfl) rfl ?_
      refine x_goto dX10_sure_71 (tgt := 36) rfl ?_
      refine x_ls (ls' := [(0, .ref 336), (1, .int v1), (2, .int v2), (3, .int v3), (4, .int (v4 + 1)), (5, .long (v5 + x9))]) [2, 3, 4, 5, 1, 0] rfl ?_
      exact ih (v4 + 1) (v5 + x9) h
def wp_X10_sure (I : MI) (v1 : Int32) (v2 : Int32) (v3 : Int32) (Q : Int32 → Prop) : Prop :=
    (wp_X10_isCell I v1 v2 (fun x1 => (((x1 = 0 → Q (-1)) ∧ (¬ x1 = 0 → (wp_X10_isIn v3 0 100 (fun x3 => (((¬ x3 = 0 → (wp_X10_cellOf v1 v2 (fun x5 => ((wp_X10_outOf I x5 0 (fun x6 => ((∃ N10, lp_X10_sure_36 I v1 v2 v3 Q N10 0 x6)))))))) ∧ (x3 = 0 → Q (-1)))))))))))
set_option maxRecDepth 20000 in
theorem mt_X10_sure {E : Ev} {l : Launch} {n : Nat} {R : MR} (hn : 349 ≤ n) (hG : GRm R) {I : MI} {L : ML} {v1 : Int32} {v2 : Int32} {v3 : Int32} {Q : Int32 → Prop} (h : wp_X10_sure I v1 v2 v3 Q) : MX E l rm_X10_sure yX10_sure cX10_sure 7 (some .int) [.ref 336, .int v1, .int v2, .int v3] n I L R (Qi n R (P00 I L Q)) := by
  refine MX_of (ls := [(0, .ref 336), (1, .int v1), (2, .int v2), (3, .int v3)]) (by decide) (Nat.le_of_ble_eq_true rfl) rfl ?_
  unfold wp_X10_sure at h
  refine x_aload_n dX10_sure_0 rfl ?_
  refine x_iload_n dX10_sure_1 rfl ?_
  refine x_iload_n dX10_sure_2 rfl ?_
  refine x_cVi00 [.int v1, .int v2] (mt_X10_isCell hn hG h) dX10_sure_3 lk_RX10_211 (km rfl hn) sh_336 rfl rfl (Nat.le_of_ble_eq_true rfl) (Rf_of rfl) (fun x1 h => ?_)
  refine x_if_eq dX10_sure_6 (tgt := 19) rfl ⟨fun c2 => ?_, fun c2 => ?_⟩
  · have h := h.1 c2
    refine x_iconst (v := (-1)) dX10_sure_19 ki_m1 ?_
    exact x_ireturn dX10_sure_20 ⟨_, rfl, rfl, rfl, rfl, rfl, h⟩
  · have h := h.2 c2
    refine x_iload_n dX10_sure_9 rfl ?_
    refine x_iconst (v := 0) dX10_sure_10 ki_0 ?_
    refine x_bipush (v := 100) dX10_sure_11 kb_100 ?_
    refine x_cSi00 [.int v3, .int 0, .int 100] (mt_X10_isIn hn hG h) dX10_sure_13 lk_RX10_51 rfl rfl (Nat.le_of_ble_eq_true rfl) (Rf_of rfl) (fun x3 h => ?_)
    refine x_if_ne dX10_sure_16 (tgt := 21) rfl ⟨fun c4 => ?_, fun c4 => ?_⟩
    · have h := h.1 c4
      refine x_iconst (v := 0) dX10_sure_21 ki_0 ?_
      refine x_istore (ls' := [(4, .int 0), (0, .ref 336), (1, .int v1), (2, .int v2), (3, .int v3)]) dX10_sure_22 (Nat.le_of_ble_eq_true rfl) rfl ?_
      refine x_aload_n dX10_sure_24 rfl ?_
      refine x_iload_n dX10_sure_25 rfl ?_
      refine x_iload_n dX10_sure_26 rfl ?_
      refine x_cSi00 [.int v1, .int v2] (mt_X10_cellOf hn hG h) dX10_sure_27 lk_RX10_104 rfl rfl (Nat.le_of_ble_eq_true rfl) (Rf_of rfl) (fun x5 h => ?_)
      refine x_iconst (v := 0) dX10_sure_30 ki_0 ?_
      refine x_cVl00 [.int x5, .int 0] (mt_X10_outOf hn hG h) dX10_sure_31 lk_RX10_251 (km rfl hn) sh_336 rfl rfl (Nat.le_of_ble_eq_true rfl) (Rf_of rfl) (fun x6 h => ?_)
      refine x_lstore (ls' := [(5, .long x6), (4, .int 0), (0, .ref 336), (1, .int v1), (2, .int v2), (3, .int v3)]) dX10_sure_34 (Nat.le_of_ble_eq_true rfl) rfl ?_
      refine x_ls (ls' := [(0, .ref 336), (1, .int v1), (2, .int v2), (3, .int v3), (4, .int 0), (5, .long x6)]) [2, 3, 4, 5, 1, 0] rfl ?_
      obtain ⟨N10, h⟩ := h
      exact lpt_X10_sure_36 hn hG  N10 0 x6 h
    · have h := h.2 c4
      refine x_iconst (v := (-1)) dX10_sure_19 ki_m1 ?_
      exact x_ireturn dX10_sure_20 ⟨_, rfl, rfl, rfl, rfl, rfl, h⟩
