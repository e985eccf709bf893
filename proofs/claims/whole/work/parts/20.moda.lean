abbrev rm_X10_isIn : Room := { frames := 0, cells := 0, slots := 0, locals := 0 }
def wp_X10_isIn (v0 : Int32) (v1 : Int32) (v2 : Int32) (Q : Int32 → Prop) : Prop :=
    ((v0 < v1 → Q 0) ∧ (¬ v0 < v1 → ((v2 < v0 → Q 0) ∧ (¬ v2 < v0 → Q 1))))
set_option maxRecDepth 20000 in
theorem mt_X10_isIn {E : Ev} {l : Launch} {n : Nat} {R : MR} (hn : 349 ≤ n) (hG : GRm R) {I : MI} {L : ML} {v0 : Int32} {v1 : Int32} {v2 : Int32} {Q : Int32 → Prop} (h : wp_X10_isIn v0 v1 v2 Q) : MX E l rm_X10_isIn yX10_isIn cX10_isIn 3 (some .boolean) [.int v0, .int v1, .int v2] n I L R (Qi n R (P00 I L Q)) := by
  refine MX_of (ls := [(0, .int v0), (1, .int v1), (2, .int v2)]) (by decide) (Nat.le_of_ble_eq_true rfl) rfl ?_
  unfold wp_X10_isIn at h
  refine x_iload_n dX10_isIn_0 rfl ?_
  refine x_iload_n dX10_isIn_1 rfl ?_
  refine x_icmp_lt dX10_isIn_2 (tgt := 14) rfl ⟨fun c1 => ?_, fun c1 => ?_⟩
  · have h := h.1 c1
    refine x_iconst (v := 0) dX10_isIn_14 ki_0 ?_
    exact x_zreturn dX10_isIn_15 rfl ⟨_, rfl, rfl, rfl, rfl, rfl, h⟩
  · have h := h.2 c1
    refine x_iload_n dX10_isIn_5 rfl ?_
    refine x_iload_n dX10_isIn_6 rfl ?_
    refine x_icmp_gt dX10_isIn_7 (tgt := 14) rfl ⟨fun c2 => ?_, fun c2 => ?_⟩
    · have h := h.1 c2
      refine x_iconst (v := 0) dX10_isIn_14 ki_0 ?_
      exact x_zreturn dX10_isIn_15 rfl ⟨_, rfl, rfl, rfl, rfl, rfl, h⟩
    · have h := h.2 c2
      refine x_iconst (v := 1) dX10_isIn_10 ki_1 ?_
      refine x_goto dX10_isIn_11 (tgt := 15) rfl ?_
      exact x_zreturn dX10_isIn_15 rfl ⟨_, rfl, rfl, rfl, rfl, rfl, h⟩
abbrev rm_X10_cellOf : Room := { frames := 0, cells := 0, slots := 0, locals := 0 }
def wp_X10_cellOf (v0 : Int32) (v1 : Int32) (Q : Int32 → Prop) : Prop :=
    Q ((3 * v0) + v1)
set_option maxRecDepth 20000 in
theorem mt_X10_cellOf {E : Ev} {l : Launch} {n : Nat} {R : MR} (hn : 349 ≤ n) (hG : GRm R) {I : MI} {L : ML} {v0 : Int32} {v1 : Int32} {Q : Int32 → Prop} (h : wp_X10_cellOf v0 v1 Q) : MX E l rm_X10_cellOf yX10_cellOf cX10_cellOf 2 (some .int) [.int v0, .int v1] n I L R (Qi n R (P00 I L Q)) := by
  refine MX_of (ls := [(0, .int v0), (1, .int v1)]) (by decide) (Nat.le_of_ble_eq_true rfl) rfl ?_
  unfold wp_X10_cellOf at h
  refine x_iconst (v := 3) dX10_cellOf_0 ki_3 ?_
  refine x_iload_n dX10_cellOf_1 rfl ?_
  refine x_imul dX10_cellOf_2 ?_
  refine x_iload_n dX10_cellOf_3 rfl ?_
  refine x_iadd dX10_cellOf_4 ?_
  exact x_ireturn dX10_cellOf_5 ⟨_, rfl, rfl, rfl, rfl, rfl, h⟩
abbrev rm_X10_back : Room := { frames := 1, cells := 0, slots := 0, locals := 22 }
def wp_X10_back (I : MI) (v1 : Int32) (Q : Int32 → MI → Prop) : Prop :=
    (wp_X10_isIn v1 0 (I 336 6) (fun x1 => (((¬ x1 = 0 → (∀ I3, I3 = u2 I 336 6 ((I 336 6) - v1) → Q (I3 336 6) I3)) ∧ (x1 = 0 → Q (-1) I)))))
set_option maxRecDepth 20000 in
theorem mt_X10_back {E : Ev} {l : Launch} {n : Nat} {R : MR} (hn : 349 ≤ n) (hG : GRm R) {I : MI} {L : ML} {v1 : Int32} {Q : Int32 → MI → Prop} (h : wp_X10_back I v1 Q) : MX E l rm_X10_back yX10_back cX10_back 2 (some .int) [.ref 336, .int v1] n I L R (Qi n R (P10 I L Q)) := by
  refine MX_of (ls := [(0, .ref 336), (1, .int v1)]) (by decide) (Nat.le_of_ble_eq_true rfl) rfl ?_
  unfold wp_X10_back at h
  refine x_iload_n dX10_back_0 rfl ?_
  refine x_iconst (v := 0) dX10_back_1 ki_0 ?_
  refine x_aload_n dX10_back_2 rfl ?_
  refine x_geti dX10_back_3 fk_RX10_62 (km rfl hn) sh_336 ?_
  refine x_cSi00 [.int v1, .int 0, .int (I 336 6)] (mt_X10_isIn hn hG h) dX10_back_6 lk_RX10_51 rfl rfl (Nat.le_of_ble_eq_true rfl) (Rf_of rfl) (fun x1 h => ?_)
  refine x_if_ne dX10_back_9 (tgt := 14) rfl ⟨fun c2 => ?_, fun c2 => ?_⟩
  · have h := h.1 c2
    refine x_aload_n dX10_back_14 rfl ?_
    refine x_dup dX10_back_15 rfl ?_
    refine x_geti dX10_back_16 fk_RX10_62 (km rfl hn) sh_336 ?_
    refine x_iload_n dX10_back_19 rfl ?_
    refine x_isub dX10_back_20 ?_
    refine x_puti dX10_back_21 fk_RX10_62 fw_8_6 (vp_nar_int _) rfl (km rfl hn) sh_336 (fun I3 eI3 => ?_)
    have h := h I3 eI3
    refine x_aload_n dX10_back_24 rfl ?_
    refine x_geti dX10_back_25 fk_RX10_62 (km rfl hn) sh_336 ?_
    exact x_ireturn dX10_back_28 ⟨_, rfl, rfl, rfl, rfl, h⟩
  · have h := h.2 c2
    refine x_iconst (v := (-1)) dX10_back_12 ki_m1 ?_
    exact x_ireturn dX10_back_13 ⟨_, rfl, rfl, rfl, rfl, h⟩
abbrev rm_X10_isBase : Room := { frames := 1, cells := 0, slots := 0, locals := 22 }
def wp_X10_isBase (I : MI) (v1 : Int32) (Q : Int32 → Prop) : Prop :=
    (vp_in 1 2212 ∧ (wp_X10_isIn v1 0 ((I 337 (ix 1)) - 1) (fun x2 => ((isB x2 ∧ Q x2)))))
set_option maxRecDepth 20000 in
theorem mt_X10_isBase {E : Ev} {l : Launch} {n : Nat} {R : MR} (hn : 349 ≤ n) (hG : GRm R) {I : MI} {L : ML} {v1 : Int32} {Q : Int32 → Prop} (h : wp_X10_isBase I v1 Q) : MX E l rm_X10_isBase yX10_isBase cX10_isBase 2 (some .boolean) [.ref 336, .int v1] n I L R (Qi n R (P00 I L Q)) := by
  refine MX_of (ls := [(0, .ref 336), (1, .int v1)]) (by decide) (Nat.le_of_ble_eq_true rfl) rfl ?_
  unfold wp_X10_isBase at h
  refine x_iload_n dX10_isBase_0 rfl ?_
  refine x_iconst (v := 0) dX10_isBase_1 ki_0 ?_
  refine x_aload_n dX10_isBase_2 rfl ?_
  refine x_getr (j := 337) dX10_isBase_3 fk_RX10_7 (km rfl hn) sh_336 (rt_336_1 hG) ?_
  refine x_iconst (v := 1) dX10_isBase_6 ki_1 ?_
  obtain ⟨b1, h⟩ := h
  refine x_iaload dX10_isBase_7 (km rfl hn) sh_337 b1 ?_
  refine x_iconst (v := 1) dX10_isBase_8 ki_1 ?_
  refine x_isub dX10_isBase_9 ?_
  refine x_cSi00 [.int v1, .int 0, .int ((I 337 (ix 1)) - 1)] (mt_X10_isIn hn hG h) dX10_isBase_10 lk_RX10_51 rfl rfl (Nat.le_of_ble_eq_true rfl) (Rf_of rfl) (fun x2 h => ?_)
  obtain ⟨hz, h⟩ := h
  exact x_zreturn dX10_isBase_13 (isB_nar hz) ⟨_, rfl, rfl, rfl, rfl, rfl, h⟩
abbrev rm_X10_starts : Room := { frames := 0, cells := 0, slots := 0, locals := 0 }
def lp_X10_starts_2 (kf21 : MI → Prop) : Nat → Int32 → MI → Prop
  | 0, _, _ => False
  | n + 1, v1, I =>
    ((20 ≤ v1 → kf21 I) ∧ (¬ 20 ≤ v1 → (vp_in v1 2212 ∧ (∀ I3, I3 = u2 I 337 (ix v1) 0 → (lp_X10_starts_2 kf21 n (v1 + 1) I3)))))
set_option maxRecDepth 20000 in
theorem lpt_X10_starts_2 {E : Ev} {l : Launch} {n : Nat} {R : MR} (hn : 349 ≤ n) (hG : GRm R) {I0 : MI} {Q : MI → Prop} {L : ML} {kf21 : MI → Prop}
    (hK21 : ∀ (I : MI), kf21 I → X E l rm_X10_starts yX10_starts cX10_starts 2 none noX (ZM E rm_X10_starts (Qv n R (V10 I0 L Q))) 21 [(0, .ref 336)] [] n I L R 0 0) : ∀ (N : Nat) (v1 : Int32) (I : MI), lp_X10_starts_2 kf21 N v1 I → X E l rm_X10_starts yX10_starts cX10_starts 2 none noX (ZM E rm_X10_starts (Qv n R (V10 I0 L Q))) 2 [(0, .ref 336), (1, .int v1)] [] n I L R 0 0 := by
  intro N
  induction N with
  | zero => intro v1 I h; exact False.elim h
  | succ N ih =>
    intro v1 I h
    unfold lp_X10_starts_2 at h
    refine x_iload_n dX10_starts_2 rfl ?_
    refine x_bipush (v := 20) dX10_starts_3 kb_20 ?_
    refine x_icmp_ge dX10_starts_5 (tgt := 21) rfl ⟨fun c1 => ?_, fun c1 => ?_⟩
    · have h := h.1 c1
      refine x_ls (ls' := [(0, .ref 336)]) [0] rfl ?_
      exact hK21 I h
    · have h := h.2 c1
      refine x_aload_n dX10_starts_8 rfl ?_
      refine x_getr (j := 337) dX10_starts_9 fk_RX10_7 (km rfl hn) sh_336 (rt_336_1 hG) ?_
      refine x_iload_n dX10_starts_12 rfl ?_
      refine x_iconst (v := 0) dX10_starts_13 ki_0 ?_
      obtain ⟨b2, h⟩ := h
      refine x_iastore dX10_starts_14 (km rfl hn) sh_337 b2 (fun I3 eI3 => ?_)
      have h := h I3 eI3
      refine x_iinc (v := v1 + 1) (ls' := [(1, .int (v1 + 1)), (0, .ref 336)]) dX10_starts_15 rfl (congrArg (_ + ·) ki_1) (Nat.le_of_ble_eq_true rfl) rfl ?_
      refine x_goto dX10_starts_18 (tgt := 2) rfl ?_
      refine x_ls (ls' := [(0, .ref 336), (1, .int (v1 + 1))]) [1, 0] rfl ?_
      exact ih (v1 + 1) I3 h
def lp_X10_starts_24 (kf44 : MI → Prop) : Nat → Int32 → MI → Prop
  | 0, _, _ => False
  | n + 1, v1, I =>
    ((2212 ≤ v1 → kf44 I) ∧ (¬ 2212 ≤ v1 → (vp_in v1 2212 ∧ (∀ I8, I8 = u2 I 337 (ix v1) 0 → (lp_X10_starts_24 kf44 n (v1 + 1) I8)))))
set_option maxRecDepth 20000 in
theorem lpt_X10_starts_24 {E : Ev} {l : Launch} {n : Nat} {R : MR} (hn : 349 ≤ n) (hG : GRm R) {I0 : MI} {Q : MI → Prop} {L : ML} {kf44 : MI → Prop}
    (hK44 : ∀ (I : MI), kf44 I → X E l rm_X10_starts yX10_starts cX10_starts 2 none noX (ZM E rm_X10_starts (Qv n R (V10 I0 L Q))) 44 [(0, .ref 336)] [] n I L R 0 0) : ∀ (N : Nat) (v1 : Int32) (I : MI), lp_X10_starts_24 kf44 N v1 I → X E l rm_X10_starts yX10_starts cX10_starts 2 none noX (ZM E rm_X10_starts (Qv n R (V10 I0 L Q))) 24 [(0, .ref 336), (1, .int v1)] [] n I L R 0 0 := by
  intro N
  induction N with
  | zero => intro v1 I h; exact False.elim h
  | succ N ih =>
    intro v1 I h
    unfold lp_X10_starts_24 at h
    refine x_iload_n dX10_starts_24 rfl ?_
    refine x_sipush (v := 2212) dX10_starts_25 ks_2212 ?_
    refine x_icmp_ge dX10_starts_28 (tgt := 44) rfl ⟨fun c6 => ?_, fun c6 => ?_⟩
    · have h := h.1 c6
      refine x_ls (ls' := [(0, .ref 336)]) [0] rfl ?_
      exact hK44 I h
    · have h := h.2 c6
      refine x_aload_n dX10_starts_31 rfl ?_
      refine x_getr (j := 337) dX10_starts_32 fk_RX10_7 (km rfl hn) sh_336 (rt_336_1 hG) ?_
      refine x_iload_n dX10_starts_35 rfl ?_
      refine x_iconst (v := 0) dX10_starts_36 ki_0 ?_
      obtain ⟨b7, h⟩ := h
      refine x_iastore dX10_starts_37 (km rfl hn) sh_337 b7 (fun I8 eI8 => ?_)
      have h := h I8 eI8
      refine x_iinc (v := v1 + 1) (ls' := [(1, .int (v1 + 1)), (0, .ref 336)]) dX10_starts_38 rfl (congrArg (_ + ·) ki_1) (Nat.le_of_ble_eq_true rfl) rfl ?_
      refine x_goto dX10_starts_41 (tgt := 24) rfl ?_
      refine x_ls (ls' := [(0, .ref 336), (1, .int (v1 + 1))]) [1, 0] rfl ?_
      exact ih (v1 + 1) I8 h
def lp_X10_starts_46 (kf76 : MI → Prop) : Nat → Int32 → MI → Prop
  | 0, _, _ => False
  | n + 1, v1, I =>
    ((9 ≤ v1 → kf76 I) ∧ (¬ 9 ≤ v1 → (vp_in (50 + v1) 2212 ∧ (vp_in (62 + v1) 2212 ∧ (∀ I14, I14 = u2 I 337 (ix (62 + v1)) (I 337 (ix (50 + v1))) → (lp_X10_starts_46 kf76 n (v1 + 1) I14))))))
set_option maxRecDepth 20000 in
theorem lpt_X10_starts_46 {E : Ev} {l : Launch} {n : Nat} {R : MR} (hn : 349 ≤ n) (hG : GRm R) {I0 : MI} {Q : MI → Prop} {L : ML} {kf76 : MI → Prop}
    (hK76 : ∀ (I : MI), kf76 I → X E l rm_X10_starts yX10_starts cX10_starts 2 none noX (ZM E rm_X10_starts (Qv n R (V10 I0 L Q))) 76 [(0, .ref 336)] [] n I L R 0 0) : ∀ (N : Nat) (v1 : Int32) (I : MI), lp_X10_starts_46 kf76 N v1 I → X E l rm_X10_starts yX10_starts cX10_starts 2 none noX (ZM E rm_X10_starts (Qv n R (V10 I0 L Q))) 46 [(0, .ref 336), (1, .int v1)] [] n I L R 0 0 := by
  intro N
  induction N with
  | zero => intro v1 I h; exact False.elim h
  | succ N ih =>
    intro v1 I h
    unfold lp_X10_starts_46 at h
    refine x_iload_n dX10_starts_46 rfl ?_
    refine x_bipush (v := 9) dX10_starts_47 kb_9 ?_
    refine x_icmp_ge dX10_starts_49 (tgt := 76) rfl ⟨fun c11 => ?_, fun c11 => ?_⟩
    · have h := h.1 c11
      refine x_ls (ls' := [(0, .ref 336)]) [0] rfl ?_
      exact hK76 I h
    · have h := h.2 c11
      refine x_aload_n dX10_starts_52 rfl ?_
      refine x_getr (j := 337) dX10_starts_53 fk_RX10_7 (km rfl hn) sh_336 (rt_336_1 hG) ?_
      refine x_bipush (v := 62) dX10_starts_56 kb_62 ?_
      refine x_iload_n dX10_starts_58 rfl ?_
      refine x_iadd dX10_starts_59 ?_
      refine x_aload_n dX10_starts_60 rfl ?_
      refine x_getr (j := 337) dX10_starts_61 fk_RX10_7 (km rfl hn) sh_336 (rt_336_1 hG) ?_
      refine x_bipush (v := 50) dX10_starts_64 kb_50 ?_
      refine x_iload_n dX10_starts_66 rfl ?_
      refine x_iadd dX10_starts_67 ?_
      obtain ⟨b12, h⟩ := h
      refine x_iaload dX10_starts_68 (km rfl hn) sh_337 b12 ?_
      obtain ⟨b13, h⟩ := h
      refine x_iastore dX10_starts_69 (km rfl hn) sh_337 b13 (fun I14 eI14 => ?_)
      have h := h I14 eI14
      refine x_iinc (v := v1 + 1) (ls' := [(1, .int (v1 + 1)), (0, .ref 336)]) dX10_starts_70 rfl (congrArg (_ + ·) ki_1) (Nat.le_of_ble_eq_true rfl) rfl ?_
      refine x_goto dX10_starts_73 (tgt := 46) rfl ?_
      refine x_ls (ls' := [(0, .ref 336), (1, .int (v1 + 1))]) [1, 0] rfl ?_
      exact ih (v1 + 1) I14 h
def lp_X10_starts_78 (Q : MI → Prop) : Nat → Int32 → MI → Prop
  | 0, _, _ => False
  | n + 1, v1, I =>
    ((3 ≤ v1 → Q I) ∧ (¬ 3 ≤ v1 → (vp_in (59 + v1) 2212 ∧ (vp_in (71 + v1) 2212 ∧ (∀ I20, I20 = u2 I 337 (ix (71 + v1)) (I 337 (ix (59 + v1))) → (lp_X10_starts_78 Q n (v1 + 1) I20))))))
set_option maxRecDepth 20000 in
theorem lpt_X10_starts_78 {E : Ev} {l : Launch} {n : Nat} {R : MR} (hn : 349 ≤ n) (hG : GRm R) {I0 : MI} {Q : MI → Prop} {L : ML} : ∀ (N : Nat) (v1 : Int32) (I : MI), lp_X10_starts_78 Q N v1 I → X E l rm_X10_starts yX10_starts cX10_starts 2 none noX (ZM E rm_X10_starts (Qv n R (V10 I0 L Q))) 78 [(0, .ref 336), (1, .int v1)] [] n I L R 0 0 := by
  intro N
  induction N with
  | zero => intro v1 I h; exact False.elim h
  | succ N ih =>
    intro v1 I h
    unfold lp_X10_starts_78 at h
    refine x_iload_n dX10_starts_78 rfl ?_
    refine x_iconst (v := 3) dX10_starts_79 ki_3 ?_
    refine x_icmp_ge dX10_starts_80 (tgt := 107) rfl ⟨fun c17 => ?_, fun c17 => ?_⟩
    · have h := h.1 c17
      exact x_return dX10_starts_107 ⟨rfl, rfl, rfl, rfl, h⟩
    · have h := h.2 c17
      refine x_aload_n dX10_starts_83 rfl ?_
      refine x_getr (j := 337) dX10_starts_84 fk_RX10_7 (km rfl hn) sh_336 (rt_336_1 hG) ?_
      refine x_bipush (v := 71) dX10_starts_87 kb_71 ?_
      refine x_iload_n dX10_starts_89 rfl ?_
      refine x_iadd dX10_starts_90 ?_
      refine x_aload_n dX10_starts_91 rfl ?_
      refine x_getr (j := 337) dX10_starts_92 fk_RX10_7 (km rfl hn) sh_336 (rt_336_1 hG) ?_
      refine x_bipush (v := 59) dX10_starts_95 kb_59 ?_
      refine x_iload_n dX10_starts_97 rfl ?_
      refine x_iadd dX10_starts_98 ?_
      obtain ⟨b18, h⟩ := h
      refine x_iaload dX10_starts_99 (km rfl hn) sh_337 b18 ?_
      obtain ⟨b19, h⟩ := h
      refine x_iastore dX10_starts_100 (km rfl hn) sh_337 b19 (fun I20 eI20 => ?_)
      have h := h I20 eI20
      refine x_iinc (v := v1 + 1) (ls' := [(1, .int (v1 + 1)), (0, .ref 336)]) dX10_starts_101 rfl (congrArg (_ + ·) ki_1) (Nat.le_of_ble_eq_true rfl) rfl ?_
      refine x_goto dX10_starts_104 (tgt := 78) rfl ?_
      refine x_ls (ls' := [(0, .ref 336), (1, .int (v1 + 1))]) [1, 0] rfl ?_
      exact ih (v1 + 1) I20 h
def wp_X10_starts (I : MI) (Q : MI → Prop) : Prop :=
    (∃ N4, lp_X10_starts_2 (fun I5 => (∃ N9, lp_X10_starts_24 (fun I10 => (∃ N15, lp_X10_starts_46 (fun I16 => (∃ N21, lp_X10_starts_78 Q N21 0 I16)) N15 0 I10)) N9 62 I5)) N4 5 I)
set_option maxRecDepth 20000 in
theorem mt_X10_starts {E : Ev} {l : Launch} {n : Nat} {R : MR} (hn : 349 ≤ n) (hG : GRm R) {I : MI} {L : ML} {Q : MI → Prop} (h : wp_X10_starts I Q) : MX E l rm_X10_starts yX10_starts cX10_starts 2 none [.ref 336] n I L R (Qv n R (V10 I L Q)) := by
  refine MX_of (ls := [(0, .ref 336)]) (by decide) (Nat.le_of_ble_eq_true rfl) rfl ?_
  unfold wp_X10_starts at h
  refine x_iconst (v := 5) dX10_starts_0 ki_5 ?_
  refine x_istore_n (ls' := [(1, .int 5), (0, .ref 336)]) dX10_starts_1 (Nat.le_of_ble_eq_true rfl) rfl ?_
  refine x_ls (ls' := [(0, .ref 336), (1, .int 5)]) [1, 0] rfl ?_
  obtain ⟨N4, h⟩ := h
  refine lpt_X10_starts_2 hn hG (fun I5 h => ?_) N4 5 I h
  refine x_bipush (v := 62) dX10_starts_21 kb_62 ?_
  refine x_istore_n (ls' := [(1, .int 62), (0, .ref 336)]) dX10_starts_23 (Nat.le_of_ble_eq_true rfl) rfl ?_
  refine x_ls (ls' := [(0, .ref 336), (1, .int 62)]) [1, 0] rfl ?_
  obtain ⟨N9, h⟩ := h
  refine lpt_X10_starts_24 hn hG (fun I10 h => ?_) N9 62 I5 h
  refine x_iconst (v := 0) dX10_starts_44 ki_0 ?_
  refine x_istore_n (ls' := [(1, .int 0), (0, .ref 336)]) dX10_starts_45 (Nat.le_of_ble_eq_true rfl) rfl ?_
  refine x_ls (ls' := [(0, .ref 336), (1, .int 0)]) [1, 0] rfl ?_
  obtain ⟨N15, h⟩ := h
  refine lpt_X10_starts_46 hn hG (fun I16 h => ?_) N15 0 I10 h
  refine x_iconst (v := 0) dX10_starts_76 ki_0 ?_
  refine x_istore_n (ls' := [(1, .int 0), (0, .ref 336)]) dX10_starts_77 (Nat.le_of_ble_eq_true rfl) rfl ?_
  refine x_ls (ls' := [(0, .ref 336), (1, .int 0)]) [1, 0] rfl ?_
  obtain ⟨N21, h⟩ := h
  exact lpt_X10_starts_78 hn hG  N21 0 I16 h
abbrev rm_X10_isPart : Room := { frames := 1, cells := 0, slots := 0, locals := 22 }
def wp_X10_isPart (I : MI) (v1 : Int32) (Q : Int32 → Prop) : Prop :=
    (vp_in 0 2212 ∧ (wp_X10_isIn v1 0 ((I 337 (ix 0)) - 1) (fun x2 => ((isB x2 ∧ Q x2)))))
set_option maxRecDepth 20000 in
theorem mt_X10_isPart {E : Ev} {l : Launch} {n : Nat} {R : MR} (hn : 349 ≤ n) (hG : GRm R) {I : MI} {L : ML} {v1 : Int32} {Q : Int32 → Prop} (h : wp_X10_isPart I v1 Q) : MX E l rm_X10_isPart yX10_isPart cX10_isPart 2 (some .boolean) [.ref 336, .int v1] n I L R (Qi n R (P00 I L Q)) := by
  refine MX_of (ls := [(0, .ref 336), (1, .int v1)]) (by decide) (Nat.le_of_ble_eq_true rfl) rfl ?_
  unfold wp_X10_isPart at h
  refine x_iload_n dX10_isPart_0 rfl ?_
  refine x_iconst (v := 0) dX10_isPart_1 ki_0 ?_
  refine x_aload_n dX10_isPart_2 rfl ?_
  refine x_getr (j := 337) dX10_isPart_3 fk_RX10_7 (km rfl hn) sh_336 (rt_336_1 hG) ?_
  refine x_iconst (v := 0) dX10_isPart_6 ki_0 ?_
  obtain ⟨b1, h⟩ := h
  refine x_iaload dX10_isPart_7 (km rfl hn) sh_337 b1 ?_
  refine x_iconst (v := 1) dX10_isPart_8 ki_1 ?_
  refine x_isub dX10_isPart_9 ?_
  refine x_cSi00 [.int v1, .int 0, .int ((I 337 (ix 0)) - 1)] (mt_X10_isIn hn hG h) dX10_isPart_10 lk_RX10_51 rfl rfl (Nat.le_of_ble_eq_true rfl) (Rf_of rfl) (fun x2 h => ?_)
  obtain ⟨hz, h⟩ := h
  exact x_zreturn dX10_isPart_13 (isB_nar hz) ⟨_, rfl, rfl, rfl, rfl, rfl, h⟩
abbrev rm_X10_isCell : Room := { frames := 2, cells := 0, slots := 0, locals := 43 }
def wp_X10_isCell (I : MI) (v1 : Int32) (v2 : Int32) (Q : Int32 → Prop) : Prop :=
    (wp_X10_isBase I v1 (fun x1 => (((x1 = 0 → Q 0) ∧ (¬ x1 = 0 → (wp_X10_isPart I v2 (fun x3 => (((x3 = 0 → Q 0) ∧ (¬ x3 = 0 → Q 1))))))))))
set_option maxRecDepth 20000 in
theorem mt_X10_isCell {E : Ev} {l : Launch} {n : Nat} {R : MR} (hn : 349 ≤ n) (hG : GRm R) {I : MI} {L : ML} {v1 : Int32} {v2 : Int32} {Q : Int32 → Prop} (h : wp_X10_isCell I v1 v2 Q) : MX E l rm_X10_isCell yX10_isCell cX10_isCell 3 (some .boolean) [.ref 336, .int v1, .int v2] n I L R (Qi n R (P00 I L Q)) := by
  refine MX_of (ls := [(0, .ref 336), (1, .int v1), (2, .int v2)]) (by decide) (Nat.le_of_ble_eq_true rfl) rfl ?_
  unfold wp_X10_isCell at h
  refine x_aload_n dX10_isCell_0 rfl ?_
  refine x_iload_n dX10_isCell_1 rfl ?_
  refine x_cVi00 [.int v1] (mt_X10_isBase hn hG h) dX10_isCell_2 lk_RX10_55 (km rfl hn) sh_336 rfl rfl (Nat.le_of_ble_eq_true rfl) (Rf_of rfl) (fun x1 h => ?_)
  refine x_if_eq dX10_isCell_5 (tgt := 20) rfl ⟨fun c2 => ?_, fun c2 => ?_⟩
  · have h := h.1 c2
    refine x_iconst (v := 0) dX10_isCell_20 ki_0 ?_
    exact x_zreturn dX10_isCell_21 rfl ⟨_, rfl, rfl, rfl, rfl, rfl, h⟩
  · have h := h.2 c2
    refine x_aload_n dX10_isCell_8 rfl ?_
    refine x_iload_n dX10_isCell_9 rfl ?_
    refine x_cVi00 [.int v2] (mt_X10_isPart hn hG h) dX10_isCell_10 lk_RX10_59 (km rfl hn) sh_336 rfl rfl (Nat.le_of_ble_eq_true rfl) (Rf_of rfl) (fun x3 h => ?_)
    refine x_if_eq dX10_isCell_13 (tgt := 20) rfl ⟨fun c4 => ?_, fun c4 => ?_⟩
    · have h := h.1 c4
      refine x_iconst (v := 0) dX10_isCell_20 ki_0 ?_
      exact x_zreturn dX10_isCell_21 rfl ⟨_, rfl, rfl, rfl, rfl, rfl, h⟩
    · have h := h.2 c4
      refine x_iconst (v := 1) dX10_isCell_16 ki_1 ?_
      refine x_goto dX10_isCell_17 (tgt := 21) rfl ?_
      exact x_zreturn dX10_isCell_21 rfl ⟨_, rfl, rfl, rfl, rfl, rfl, h⟩
abbrev rm_X10_bringBack : Room := { frames := 0, cells := 0, slots := 0, locals := 0 }
def lp_X10_bringBack_2 (Q : MI → Prop) : Nat → Int32 → MI → Prop
  | 0, _, _ => False
  | n + 1, v1, I =>
    ((2212 ≤ v1 → Q I) ∧ (¬ 2212 ≤ v1 → (vp_in v1 2212 ∧ (vp_in v1 2212 ∧ (∀ I4, I4 = u2 I 337 (ix v1) (I 338 (ix v1)) → (lp_X10_bringBack_2 Q n (v1 + 1) I4))))))
set_option maxRecDepth 20000 in
theorem lpt_X10_bringBack_2 {E : Ev} {l : Launch} {n : Nat} {R : MR} (hn : 349 ≤ n) (hG : GRm R) {I0 : MI} {Q : MI → Prop} {L : ML} : ∀ (N : Nat) (v1 : Int32) (I : MI), lp_X10_bringBack_2 Q N v1 I → X E l rm_X10_bringBack yX10_bringBack cX10_bringBack 2 none noX (ZM E rm_X10_bringBack (Qv n R (V10 I0 L Q))) 2 [(0, .ref 336), (1, .int v1)] [] n I L R 0 0 := by
  intro N
  induction N with
  | zero => intro v1 I h; exact False.elim h
  | succ N ih =>
    intro v1 I h
    unfold lp_X10_bringBack_2 at h
    refine x_iload_n dX10_bringBack_2 rfl ?_
    refine x_sipush (v := 2212) dX10_bringBack_3 ks_2212 ?_
    refine x_icmp_ge dX10_bringBack_6 (tgt := 27) rfl ⟨fun c1 => ?_, fun c1 => ?_⟩
    · have h := h.1 c1
      exact x_return dX10_bringBack_27 ⟨rfl, rfl, rfl, rfl, h⟩
    · have h := h.2 c1
      refine x_aload_n dX10_bringBack_9 rfl ?_
      refine x_getr (j := 337) dX10_bringBack_10 fk_RX10_7 (km rfl hn) sh_336 (rt_336_1 hG) ?_
      refine x_iload_n dX10_bringBack_13 rfl ?_
      refine x_aload_n dX10_bringBack_14 rfl ?_
      refine x_getr (j := 338) dX10_bringBack_15 fk_RX10_13 (km rfl hn) sh_336 (rt_336_2 hG) ?_
      refine x_iload_n dX10_bringBack_18 rfl ?_
      obtain ⟨b2, h⟩ := h
      refine x_iaload dX10_bringBack_19 (km rfl hn) sh_338 b2 ?_
      obtain ⟨b3, h⟩ := h
      refine x_iastore dX10_bringBack_20 (km rfl hn) sh_337 b3 (fun I4 eI4 => ?_)
      have h := h I4 eI4
      refine x_iinc (v := v1 + 1) (ls' := [(1, .int (v1 + 1)), (0, .ref 336)]) dX10_bringBack_21 rfl (congrArg (_ + ·) ki_1) (Nat.le_of_ble_eq_true rfl) rfl ?_
      refine x_goto dX10_bringBack_24 (tgt := 2) rfl ?_
      refine x_ls (ls' := [(0, .ref 336), (1, .int (v1 + 1))]) [1, 0] rfl ?_
      exact ih (v1 + 1) I4 h
def wp_X10_bringBack (I : MI) (Q : MI → Prop) : Prop :=
    (∃ N5, lp_X10_bringBack_2 Q N5 0 I)
set_option maxRecDepth 20000 in
theorem mt_X10_bringBack {E : Ev} {l : Launch} {n : Nat} {R : MR} (hn : 349 ≤ n) (hG : GRm R) {I : MI} {L : ML} {Q : MI → Prop} (h : wp_X10_bringBack I Q) : MX E l rm_X10_bringBack yX10_bringBack cX10_bringBack 2 none [.ref 336] n I L R (Qv n R (V10 I L Q)) := by
  refine MX_of (ls := [(0, .ref 336)]) (by decide) (Nat.le_of_ble_eq_true rfl) rfl ?_
  unfold wp_X10_bringBack at h
  refine x_iconst (v := 0) dX10_bringBack_0 ki_0 ?_
  refine x_istore_n (ls' := [(1, .int 0), (0, .ref 336)]) dX10_bringBack_1 (Nat.le_of_ble_eq_true rfl) rfl ?_
  refine x_ls (ls' := [(0, .ref 336), (1, .int 0)]) [1, 0] rfl ?_
  obtain ⟨N5, h⟩ := h
  exact lpt_X10_bringBack_2 hn hG  N5 0 I h
abbrev rm_X10_putAside : Room := { frames := 0, cells := 0, slots := 0, locals := 0 }
def lp_X10_putAside_2 (Q : MI → Prop) : Nat → Int32 → MI → Prop
  | 0, _, _ => False
  | n + 1, v1, I =>
    ((2212 ≤ v1 → Q I) ∧ (¬ 2212 ≤ v1 → (vp_in v1 2212 ∧ (vp_in v1 2212 ∧ (∀ I4, I4 = u2 I 338 (ix v1) (I 337 (ix v1)) → (lp_X10_putAside_2 Q n (v1 + 1) I4))))))
set_option maxRecDepth 20000 in
theorem lpt_X10_putAside_2 {E : Ev} {l : Launch} {n : Nat} {R : MR} (hn : 349 ≤ n) (hG : GRm R) {I0 : MI} {Q : MI → Prop} {L : ML} : ∀ (N : Nat) (v1 : Int32) (I : MI), lp_X10_putAside_2 Q N v1 I → X E l rm_X10_putAside yX10_putAside cX10_putAside 2 none noX (ZM E rm_X10_putAside (Qv n R (V10 I0 L Q))) 2 [(0, .ref 336), (1, .int v1)] [] n I L R 0 0 := by
  intro N
  induction N with
  | zero => intro v1 I h; exact False.elim h
  | succ N ih =>
    intro v1 I h
    unfold lp_X10_putAside_2 at h
    refine x_iload_n dX10_putAside_2 rfl ?_
    refine x_sipush (v := 2212) dX10_putAside_3 ks_2212 ?_
    refine x_icmp_ge dX10_putAside_6 (tgt := 27) rfl ⟨fun c1 => ?_, fun c1 => ?_⟩
    · have h := h.1 c1
      exact x_return dX10_putAside_27 ⟨rfl, rfl, rfl, rfl, h⟩
    · have h := h.2 c1
      refine x_aload_n dX10_putAside_9 rfl ?_
      refine x_getr (j := 338) dX10_putAside_10 fk_RX10_13 (km rfl hn) sh_336 (rt_336_2 hG) ?_
      refine x_iload_n dX10_putAside_13 rfl ?_
      refine x_aload_n dX10_putAside_14 rfl ?_
      refine x_getr (j := 337) dX10_putAside_15 fk_RX10_7 (km rfl hn) sh_336 (rt_336_1 hG) ?_
      refine x_iload_n dX10_putAside_18 rfl ?_
      obtain ⟨b2, h⟩ := h
      refine x_iaload dX10_putAside_19 (km rfl hn) sh_337 b2 ?_
      obtain ⟨b3, h⟩ := h
      refine x_iastore dX10_putAside_20 (km rfl hn) sh_338 b3 (fun I4 eI4 => ?_)
      have h := h I4 eI4
      refine x_iinc (v := v1 + 1) (ls' := [(1, .int (v1 + 1)), (0, .ref 336)]) dX10_putAside_21 rfl (congrArg (_ + ·) ki_1) (Nat.le_of_ble_eq_true rfl) rfl ?_
      refine x_goto dX10_putAside_24 (tgt := 2) rfl ?_
      refine x_ls (ls' := [(0, .ref 336), (1, .int (v1 + 1))]) [1, 0] rfl ?_
      exact ih (v1 + 1) I4 h
def wp_X10_putAside (I : MI) (Q : MI → Prop) : Prop :=
    (∃ N5, lp_X10_putAside_2 Q N5 0 I)
set_option maxRecDepth 20000 in
theorem mt_X10_putAside {E : Ev} {l : Launch} {n : Nat} {R : MR} (hn : 349 ≤ n) (hG : GRm R) {I : MI} {L : ML} {Q : MI → Prop} (h : wp_X10_putAside I Q) : MX E l rm_X10_putAside yX10_putAside cX10_putAside 2 none [.ref 336] n I L R (Qv n R (V10 I L Q)) := by
  refine MX_of (ls := [(0, .ref 336)]) (by decide) (Nat.le_of_ble_eq_true rfl) rfl ?_
  unfold wp_X10_putAside at h
  refine x_iconst (v := 0) dX10_putAside_0 ki_0 ?_
  refine x_istore_n (ls' := [(1, .int 0), (0, .ref 336)]) dX10_putAside_1 (Nat.le_of_ble_eq_true rfl) rfl ?_
  refine x_ls (ls' := [(0, .ref 336), (1, .int 0)]) [1, 0] rfl ?_
  obtain ⟨N5, h⟩ := h
  exact lpt_X10_putAside_2 hn hG  N5 0 I h
abbrev rm_X10_feed : Room := { frames := 0, cells := 0, slots := 0, locals := 0 }
def jn_X10_feed_71 (I : MI) (v6 : Int32) (s0 : Int32) (kj18 : Int32 → MI → Prop) : Prop :=
    (vp_in (I 336 6) 400 ∧ (∀ I8, I8 = u2 I 340 (ix (I 336 6)) ((s0 >>> ((24 - (8 * (v6 - v6 / 4 * 4))) &&& 31)) &&& 255) → (∀ I9, I9 = u2 I8 336 6 ((I8 336 6) + 1) → kj18 (v6 + 1) I9)))
set_option maxRecDepth 20000 in
theorem jnt_X10_feed_71 {E : Ev} {l : Launch} {n : Nat} {R : MR} (hn : 349 ≤ n) (hG : GRm R) {I0 : MI} {Q : Int32 → MI → Prop} {I : MI} {L : ML} {v1 : Int32} {v2 : Int32} {v3 : Int32} {v4 : Int32} {v5 : Int32} {v6 : Int32} {s0 : Int32} {kj18 : Int32 → MI → Prop}
    (hJ18 : ∀ (v6 : Int32) (I : MI), kj18 v6 I → X E l rm_X10_feed yX10_feed cX10_feed 8 (some .int) noX (ZM E rm_X10_feed (Qi n R (P10 I0 L Q))) 18 [(0, .ref 336), (1, .int v1), (2, .int v2), (3, .int v3), (4, .int v4), (5, .int v5), (6, .int v6)] [] n I L R 0 0) (h : jn_X10_feed_71 I v6 s0 kj18) : X E l rm_X10_feed yX10_feed cX10_feed 8 (some .int) noX (ZM E rm_X10_feed (Qi n R (P10 I0 L Q))) 71 [(0, .ref 336), (1, .int v1), (2, .int v2), (3, .int v3), (4, .int v4), (5, .int v5), (6, .int v6)] [.int s0] n I L R 0 0 := by
  unfold jn_X10_feed_71 at h
  refine x_istore (ls' := [(7, .int s0), (0, .ref 336), (1, .int v1), (2, .int v2), (3, .int v3), (4, .int v4), (5, .int v5), (6, .int v6)]) dX10_feed_71 (Nat.le_of_ble_eq_true rfl) rfl ?_
  refine x_aload_n dX10_feed_73 rfl ?_
  refine x_getr (j := 340) dX10_feed_74 fk_RX10_19 (km rfl hn) sh_336 (rt_336_5 hG) ?_
  refine x_aload_n dX10_feed_77 rfl ?_
  refine x_geti dX10_feed_78 fk_RX10_62 (km rfl hn) sh_336 ?_
  refine x_iload dX10_feed_81 rfl ?_
  refine x_bipush (v := 24) dX10_feed_83 kb_24 ?_
  refine x_bipush (v := 8) dX10_feed_85 kb_8 ?_
  refine x_iload dX10_feed_87 rfl ?_
  refine x_iconst (v := 4) dX10_feed_89 ki_4 ?_
  refine x_irem dX10_feed_90 (by decide) ?_
  refine x_imul dX10_feed_91 ?_
  refine x_isub dX10_feed_92 ?_
  refine x_ishr dX10_feed_93 ?_
  refine x_sipush (v := 255) dX10_feed_94 ks_255 ?_
  refine x_iand dX10_feed_97 ?_
  obtain ⟨b7, h⟩ := h
  refine x_iastore dX10_feed_98 (km rfl hn) sh_340 b7 (fun I8 eI8 => ?_)
  have h := h I8 eI8
  refine x_aload_n dX10_feed_99 rfl ?_
  refine x_dup dX10_feed_100 rfl ?_
  refine x_geti dX10_feed_101 fk_RX10_62 (km rfl hn) sh_336 ?_
  refine x_iconst (v := 1) dX10_feed_104 ki_1 ?_
  refine x_iadd dX10_feed_105 ?_
  refine x_puti dX10_feed_106 fk_RX10_62 fw_8_6 (vp_nar_int _) rfl (km rfl hn) sh_336 (fun I9 eI9 => ?_)
  have h := h I9 eI9
  refine x_iinc (v := v6 + 1) (ls' := [(6, .int (v6 + 1)), (7, .int s0), (0, .ref 336), (1, .int v1), (2, .int v2), (3, .int v3), (4, .int v4), (5, .int v5)]) dX10_feed_109 rfl (congrArg (_ + ·) ki_1) (Nat.le_of_ble_eq_true rfl) rfl ?_
  refine x_goto dX10_feed_112 (tgt := 18) rfl ?_
  refine x_ls (ls' := [(0, .ref 336), (1, .int v1), (2, .int v2), (3, .int v3), (4, .int v4), (5, .int v5), (6, .int (v6 + 1))]) [2, 3, 4, 5, 6, 7, 0] rfl ?_
  exact hJ18 (v6 + 1) I9 h
def lp_X10_feed_18 (v1 : Int32) (v2 : Int32) (v3 : Int32) (v4 : Int32) (v5 : Int32) (Q : Int32 → MI → Prop) : Nat → Int32 → MI → Prop
  | 0, _, _ => False
  | n + 1, v6, I =>
    ((20 ≤ v6 → Q (I 336 6) I) ∧ (¬ 20 ≤ v6 → ((4 ≤ v6 → ((8 ≤ v6 → ((12 ≤ v6 → ((16 ≤ v6 → (jn_X10_feed_71 I v6 v5 (fun x10 I11 => (lp_X10_feed_18 v1 v2 v3 v4 v5 Q n x10 I11)))) ∧ (¬ 16 ≤ v6 → (jn_X10_feed_71 I v6 v4 (fun x12 I13 => (lp_X10_feed_18 v1 v2 v3 v4 v5 Q n x12 I13)))))) ∧ (¬ 12 ≤ v6 → (jn_X10_feed_71 I v6 v3 (fun x14 I15 => (lp_X10_feed_18 v1 v2 v3 v4 v5 Q n x14 I15)))))) ∧ (¬ 8 ≤ v6 → (jn_X10_feed_71 I v6 v2 (fun x16 I17 => (lp_X10_feed_18 v1 v2 v3 v4 v5 Q n x16 I17)))))) ∧ (¬ 4 ≤ v6 → (jn_X10_feed_71 I v6 v1 (fun x18 I19 => (lp_X10_feed_18 v1 v2 v3 v4 v5 Q n x18 I19)))))))
set_option maxRecDepth 20000 in
theorem lpt_X10_feed_18 {E : Ev} {l : Launch} {n : Nat} {R : MR} (hn : 349 ≤ n) (hG : GRm R) {I0 : MI} {Q : Int32 → MI → Prop} {v1 : Int32} {v2 : Int32} {v3 : Int32} {v4 : Int32} {v5 : Int32} {L : ML} : ∀ (N : Nat) (v6 : Int32) (I : MI), lp_X10_feed_18 v1 v2 v3 v4 v5 Q N v6 I → X E l rm_X10_feed yX10_feed cX10_feed 8 (some .int) noX (ZM E rm_X10_feed (Qi n R (P10 I0 L Q))) 18 [(0, .ref 336), (1, .int v1), (2, .int v2), (3, .int v3), (4, .int v4), (5, .int v5), (6, .int v6)] [] n I L R 0 0 := by
  intro N
  induction N with
  | zero => intro v6 I h; exact False.elim h
  | succ N ih =>
    intro v6 I h
    unfold lp_X10_feed_18 at h
    refine x_iload dX10_feed_18 rfl ?_
    refine x_bipush (v := 20) dX10_feed_20 kb_20 ?_
    refine x_icmp_ge dX10_feed_22 (tgt := 115) rfl ⟨fun c2 => ?_, fun c2 => ?_⟩
    · have h := h.1 c2
      refine x_aload_n dX10_feed_115 rfl ?_
      refine x_geti dX10_feed_116 fk_RX10_62 (km rfl hn) sh_336 ?_
      exact x_ireturn dX10_feed_119 ⟨_, rfl, rfl, rfl, rfl, h⟩
    · have h := h.2 c2
      refine x_iload dX10_feed_25 rfl ?_
      refine x_iconst (v := 4) dX10_feed_27 ki_4 ?_
      refine x_icmp_ge dX10_feed_28 (tgt := 35) rfl ⟨fun c3 => ?_, fun c3 => ?_⟩
      · have h := h.1 c3
        refine x_iload dX10_feed_35 rfl ?_
        refine x_bipush (v := 8) dX10_feed_37 kb_8 ?_
        refine x_icmp_ge dX10_feed_39 (tgt := 46) rfl ⟨fun c4 => ?_, fun c4 => ?_⟩
        · have h := h.1 c4
          refine x_iload dX10_feed_46 rfl ?_
          refine x_bipush (v := 12) dX10_feed_48 kb_12 ?_
          refine x_icmp_ge dX10_feed_50 (tgt := 57) rfl ⟨fun c5 => ?_, fun c5 => ?_⟩
          · have h := h.1 c5
            refine x_iload dX10_feed_57 rfl ?_
            refine x_bipush (v := 16) dX10_feed_59 kb_16 ?_
            refine x_icmp_ge dX10_feed_61 (tgt := 69) rfl ⟨fun c6 => ?_, fun c6 => ?_⟩
            · have h := h.1 c6
              refine x_iload dX10_feed_69 rfl ?_
              refine jnt_X10_feed_71 hn hG (fun x10 I11 h => ?_) h
              exact ih x10 I11 h
            · have h := h.2 c6
              refine x_iload dX10_feed_64 rfl ?_
              refine x_goto dX10_feed_66 (tgt := 71) rfl ?_
              refine jnt_X10_feed_71 hn hG (fun x12 I13 h => ?_) h
              exact ih x12 I13 h
          · have h := h.2 c5
            refine x_iload_n dX10_feed_53 rfl ?_
            refine x_goto dX10_feed_54 (tgt := 71) rfl ?_
            refine jnt_X10_feed_71 hn hG (fun x14 I15 h => ?_) h
            exact ih x14 I15 h
        · have h := h.2 c4
          refine x_iload_n dX10_feed_42 rfl ?_
          refine x_goto dX10_feed_43 (tgt := 71) rfl ?_
          refine jnt_X10_feed_71 hn hG (fun x16 I17 h => ?_) h
          exact ih x16 I17 h
      · have h := h.2 c3
        refine x_iload_n dX10_feed_31 rfl ?_
        refine x_goto dX10_feed_32 (tgt := 71) rfl ?_
        refine jnt_X10_feed_71 hn hG (fun x18 I19 h => ?_) h
        exact ih x18 I19 h
def wp_X10_feed (I : MI) (v1 : Int32) (v2 : Int32) (v3 : Int32) (v4 : Int32) (v5 : Int32) (Q : Int32 → MI → Prop) : Prop :=
    ((((I 336 6) + 20) ≤ 400 → (∃ N20, lp_X10_feed_18 v1 v2 v3 v4 v5 Q N20 0 I)) ∧ (¬ ((I 336 6) + 20) ≤ 400 → Q (-1) I))
set_option maxRecDepth 20000 in
theorem mt_X10_feed {E : Ev} {l : Launch} {n : Nat} {R : MR} (hn : 349 ≤ n) (hG : GRm R) {I : MI} {L : ML} {v1 : Int32} {v2 : Int32} {v3 : Int32} {v4 : Int32} {v5 : Int32} {Q : Int32 → MI → Prop} (h : wp_X10_feed I v1 v2 v3 v4 v5 Q) : MX E l rm_X10_feed yX10_feed cX10_feed 8 (some .int) [.ref 336, .int v1, .int v2, .int v3, .int v4, .int v5] n I L R (Qi n R (P10 I L Q)) := by
  refine MX_of (ls := [(0, .ref 336), (1, .int v1), (2, .int v2), (3, .int v3), (4, .int v4), (5, .int v5)]) (by decide) (Nat.le_of_ble_eq_true rfl) rfl ?_
  unfold wp_X10_feed at h
  refine x_aload_n dX10_feed_0 rfl ?_
  refine x_geti dX10_feed_1 fk_RX10_62 (km rfl hn) sh_336 ?_
  refine x_bipush (v := 20) dX10_feed_4 kb_20 ?_
  refine x_iadd dX10_feed_6 ?_
  refine x_sipush (v := 400) dX10_feed_7 ks_400 ?_
  refine x_icmp_le dX10_feed_10 (tgt := 15) rfl ⟨fun c1 => ?_, fun c1 => ?_⟩
  · have h := h.1 c1
    refine x_iconst (v := 0) dX10_feed_15 ki_0 ?_
    refine x_istore (ls' := [(6, .int 0), (0, .ref 336), (1, .int v1), (2, .int v2), (3, .int v3), (4, .int v4), (5, .int v5)]) dX10_feed_16 (Nat.le_of_ble_eq_true rfl) rfl ?_
    refine x_ls (ls' := [(0, .ref 336), (1, .int v1), (2, .int v2), (3, .int v3), (4, .int v4), (5, .int v5), (6, .int 0)]) [1, 2, 3, 4, 5, 6, 0] rfl ?_
    obtain ⟨N20, h⟩ := h
    exact lpt_X10_feed_18 hn hG  N20 0 I h
  · have h := h.2 c1
    refine x_iconst (v := (-1)) dX10_feed_13 ki_m1 ?_
    exact x_ireturn dX10_feed_14 ⟨_, rfl, rfl, rfl, rfl, h⟩
abbrev rm_X10_isDigit : Room := { frames := 1, cells := 0, slots := 0, locals := 22 }
def wp_X10_isDigit (I : MI) (v1 : Int32) (Q : Int32 → Prop) : Prop :=
    (((I 336 7) ≤ v1 → Q 0) ∧ (¬ (I 336 7) ≤ v1 → (vp_in v1 400 ∧ (wp_X10_isIn (I 340 (ix v1)) 48 57 (fun x3 => (((x3 = 0 → Q 0) ∧ (¬ x3 = 0 → Q 1))))))))
set_option maxRecDepth 20000 in
theorem mt_X10_isDigit {E : Ev} {l : Launch} {n : Nat} {R : MR} (hn : 349 ≤ n) (hG : GRm R) {I : MI} {L : ML} {v1 : Int32} {Q : Int32 → Prop} (h : wp_X10_isDigit I v1 Q) : MX E l rm_X10_isDigit yX10_isDigit cX10_isDigit 2 (some .boolean) [.ref 336, .int v1] n I L R (Qi n R (P00 I L Q)) := by
  refine MX_of (ls := [(0, .ref 336), (1, .int v1)]) (by decide) (Nat.le_of_ble_eq_true rfl) rfl ?_
  unfold wp_X10_isDigit at h
  refine x_iload_n dX10_isDigit_0 rfl ?_
  refine x_aload_n dX10_isDigit_1 rfl ?_
  refine x_geti dX10_isDigit_2 fk_RX10_65 (km rfl hn) sh_336 ?_
  refine x_icmp_ge dX10_isDigit_5 (tgt := 28) rfl ⟨fun c1 => ?_, fun c1 => ?_⟩
  · have h := h.1 c1
    refine x_iconst (v := 0) dX10_isDigit_28 ki_0 ?_
    exact x_zreturn dX10_isDigit_29 rfl ⟨_, rfl, rfl, rfl, rfl, rfl, h⟩
  · have h := h.2 c1
    refine x_aload_n dX10_isDigit_8 rfl ?_
    refine x_getr (j := 340) dX10_isDigit_9 fk_RX10_19 (km rfl hn) sh_336 (rt_336_5 hG) ?_
    refine x_iload_n dX10_isDigit_12 rfl ?_
    obtain ⟨b2, h⟩ := h
    refine x_iaload dX10_isDigit_13 (km rfl hn) sh_340 b2 ?_
    refine x_bipush (v := 48) dX10_isDigit_14 kb_48 ?_
    refine x_bipush (v := 57) dX10_isDigit_16 kb_57 ?_
    refine x_cSi00 [.int (I 340 (ix v1)), .int 48, .int 57] (mt_X10_isIn hn hG h) dX10_isDigit_18 lk_RX10_51 rfl rfl (Nat.le_of_ble_eq_true rfl) (Rf_of rfl) (fun x3 h => ?_)
    refine x_if_eq dX10_isDigit_21 (tgt := 28) rfl ⟨fun c4 => ?_, fun c4 => ?_⟩
    · have h := h.1 c4
      refine x_iconst (v := 0) dX10_isDigit_28 ki_0 ?_
      exact x_zreturn dX10_isDigit_29 rfl ⟨_, rfl, rfl, rfl, rfl, rfl, h⟩
    · have h := h.2 c4
      refine x_iconst (v := 1) dX10_isDigit_24 ki_1 ?_
      refine x_goto dX10_isDigit_25 (tgt := 29) rfl ?_
      exact x_zreturn dX10_isDigit_29 rfl ⟨_, rfl, rfl, rfl, rfl, rfl, h⟩
abbrev rm_X10_isLetter : Room := { frames := 1, cells := 0, slots := 0, locals := 22 }
def wp_X10_isLetter (I : MI) (v1 : Int32) (Q : Int32 → Prop) : Prop :=
    (((I 336 7) ≤ v1 → Q 0) ∧ (¬ (I 336 7) ≤ v1 → (vp_in v1 400 ∧ (wp_X10_isIn (I 340 (ix v1)) 97 122 (fun x3 => (((x3 = 0 → Q 0) ∧ (¬ x3 = 0 → Q 1))))))))
set_option maxRecDepth 20000 in
theorem mt_X10_isLetter {E : Ev} {l : Launch} {n : Nat} {R : MR} (hn : 349 ≤ n) (hG : GRm R) {I : MI} {L : ML} {v1 : Int32} {Q : Int32 → Prop} (h : wp_X10_isLetter I v1 Q) : MX E l rm_X10_isLetter yX10_isLetter cX10_isLetter 2 (some .boolean) [.ref 336, .int v1] n I L R (Qi n R (P00 I L Q)) := by
  refine MX_of (ls := [(0, .ref 336), (1, .int v1)]) (by decide) (Nat.le_of_ble_eq_true rfl) rfl ?_
  unfold wp_X10_isLetter at h
  refine x_iload_n dX10_isLetter_0 rfl ?_
  refine x_aload_n dX10_isLetter_1 rfl ?_
  refine x_geti dX10_isLetter_2 fk_RX10_65 (km rfl hn) sh_336 ?_
  refine x_icmp_ge dX10_isLetter_5 (tgt := 28) rfl ⟨fun c1 => ?_, fun c1 => ?_⟩
  · have h := h.1 c1
    refine x_iconst (v := 0) dX10_isLetter_28 ki_0 ?_
    exact x_zreturn dX10_isLetter_29 rfl ⟨_, rfl, rfl, rfl, rfl, rfl, h⟩
  · have h := h.2 c1
    refine x_aload_n dX10_isLetter_8 rfl ?_
    refine x_getr (j := 340) dX10_isLetter_9 fk_RX10_19 (km rfl hn) sh_336 (rt_336_5 hG) ?_
    refine x_iload_n dX10_isLetter_12 rfl ?_
    obtain ⟨b2, h⟩ := h
    refine x_iaload dX10_isLetter_13 (km rfl hn) sh_340 b2 ?_
    refine x_bipush (v := 97) dX10_isLetter_14 kb_97 ?_
    refine x_bipush (v := 122) dX10_isLetter_16 kb_122 ?_
    refine x_cSi00 [.int (I 340 (ix v1)), .int 97, .int 122] (mt_X10_isIn hn hG h) dX10_isLetter_18 lk_RX10_51 rfl rfl (Nat.le_of_ble_eq_true rfl) (Rf_of rfl) (fun x3 h => ?_)
    refine x_if_eq dX10_isLetter_21 (tgt := 28) rfl ⟨fun c4 => ?_, fun c4 => ?_⟩
    · have h := h.1 c4
      refine x_iconst (v := 0) dX10_isLetter_28 ki_0 ?_
      exact x_zreturn dX10_isLetter_29 rfl ⟨_, rfl, rfl, rfl, rfl, rfl, h⟩
    · have h := h.2 c4
      refine x_iconst (v := 1) dX10_isLetter_24 ki_1 ?_
      refine x_goto dX10_isLetter_25 (tgt := 29) rfl ?_
      exact x_zreturn dX10_isLetter_29 rfl ⟨_, rfl, rfl, rfl, rfl, rfl, h⟩
abbrev rm_X10_isWord : Room := { frames := 0, cells := 0, slots := 0, locals := 0 }
def lp_X10_isWord_8 (I : MI) (kf62 : Int64 → Prop) : Nat → Int64 → Int32 → Prop
  | 0, _, _ => False
  | n + 1, v3, v5 =>
    ((¬ (I 336 9) = 1 → kf62 v3) ∧ ((I 336 9) = 1 → (((I 336 8) ≤ v5 → kf62 v3) ∧ (¬ (I 336 8) ≤ v5 → ((((I 336 10) + 8) ≤ v5 → kf62 v3) ∧ (¬ ((I 336 10) + 8) ≤ v5 → (vp_in v5 400 ∧ (lp_X10_isWord_8 I kf62 n (((27 * v3) + ((I 340 (ix v5)).toInt64)) - 96) (v5 + 1)))))))))
set_option maxRecDepth 20000 in
theorem lpt_X10_isWord_8 {E : Ev} {l : Launch} {n : Nat} {R : MR} (hn : 349 ≤ n) (hG : GRm R) {Q : Int32 → Prop} {v1 : Int64} {I : MI} {L : ML} {kf62 : Int64 → Prop}
    (hK62 : ∀ (v3 : Int64), kf62 v3 → X E l rm_X10_isWord yX10_isWord cX10_isWord 6 (some .boolean) noX (ZM E rm_X10_isWord (Qi n R (P00 I L Q))) 62 [(0, .ref 336), (1, .long v1), (3, .long v3)] [] n I L R 0 0) : ∀ (N : Nat) (v3 : Int64) (v5 : Int32), lp_X10_isWord_8 I kf62 N v3 v5 → X E l rm_X10_isWord yX10_isWord cX10_isWord 6 (some .boolean) noX (ZM E rm_X10_isWord (Qi n R (P00 I L Q))) 8 [(0, .ref 336), (1, .long v1), (3, .long v3), (5, .int v5)] [] n I L R 0 0 := by
  intro N
  induction N with
  | zero => intro v3 v5 h; exact False.elim h
  | succ N ih =>
    intro v3 v5 h
    unfold lp_X10_isWord_8 at h
    refine x_aload_n dX10_isWord_8 rfl ?_
    refine x_geti dX10_isWord_9 fk_RX10_90 (km rfl hn) sh_336 ?_
    refine x_iconst (v := 1) dX10_isWord_12 ki_1 ?_
    refine x_icmp_ne dX10_isWord_13 (tgt := 62) rfl ⟨fun c1 => ?_, fun c1 => ?_⟩
    · have h := h.1 c1
      refine x_ls (ls' := [(0, .ref 336), (1, .long v1), (3, .long v3)]) [0, 1, 2] rfl ?_
      exact hK62 v3 h
    · have h := h.2 c1
      refine x_iload dX10_isWord_16 rfl ?_
      refine x_aload_n dX10_isWord_18 rfl ?_
      refine x_geti dX10_isWord_19 fk_RX10_71 (km rfl hn) sh_336 ?_
      refine x_icmp_ge dX10_isWord_22 (tgt := 62) rfl ⟨fun c2 => ?_, fun c2 => ?_⟩
      · have h := h.1 c2
        refine x_ls (ls' := [(0, .ref 336), (1, .long v1), (3, .long v3)]) [0, 1, 2] rfl ?_
        exact hK62 v3 h
      · have h := h.2 c2
        refine x_iload dX10_isWord_25 rfl ?_
        refine x_aload_n dX10_isWord_27 rfl ?_
        refine x_geti dX10_isWord_28 fk_RX10_74 (km rfl hn) sh_336 ?_
        refine x_bipush (v := 8) dX10_isWord_31 kb_8 ?_
        refine x_iadd dX10_isWord_33 ?_
        refine x_icmp_ge dX10_isWord_34 (tgt := 62) rfl ⟨fun c3 => ?_, fun c3 => ?_⟩
        · have h := h.1 c3
          refine x_ls (ls' := [(0, .ref 336), (1, .long v1), (3, .long v3)]) [0, 1, 2] rfl ?_
          exact hK62 v3 h
        · have h := h.2 c3
          refine x_ldc2 (v := 27) dX10_isWord_37 kc_RX10_93 ?_
          refine x_lload_n dX10_isWord_40 rfl ?_
          refine x_lmul dX10_isWord_41 ?_
          refine x_aload_n dX10_isWord_42 rfl ?_
          refine x_getr (j := 340) dX10_isWord_43 fk_RX10_19 (km rfl hn) sh_336 (rt_336_5 hG) ?_
          refine x_iload dX10_isWord_46 rfl ?_
          obtain ⟨b4, h⟩ := h
          refine x_iaload dX10_isWord_48 (km rfl hn) sh_340 b4 ?_
          refine x_i2l dX10_isWord_49 ?_
          refine x_ladd dX10_isWord_50 ?_
          refine x_ldc2 (v := 96) dX10_isWord_51 kc_RX10_95 ?_
          refine x_lsub dX10_isWord_54 ?_
          refine x_lstore_n (ls' := [(3, .long (((27 * v3) + ((I 340 (ix v5)).toInt64)) - 96)), (0, .ref 336), (1, .long v1), (5, .int v5)]) dX10_isWord_55 (Nat.le_of_ble_eq_true rfl) rfl ?_
          refine x_iinc (v := v5 + 1) (ls' := [(5, .int (v5 + 1)), (3, .long (((27 * v3) + ((I 340 (ix v5)).toInt64)) - 96)), (0, .ref 336), (1, .long v1)]) dX10_isWord_56 rfl (congrArg (_ + ·) ki_1) (Nat.le_of_ble_eq_true rfl) rfl ?_
          refine x_goto dX10_isWord_59 (tgt := 8) rfl ?_
          refine x_ls (ls' := [(0, .ref 336), (1, .long v1), (3, .long (((27 * v3) + ((I 340 (ix v5)).toInt64)) - 96)), (5, .int (v5 + 1))]) [2, 3, 1, 0] rfl ?_
          exact ih (((27 * v3) + ((I 340 (ix v5)).toInt64)) - 96) (v5 + 1) h
def jn_X10_isWord_62 (I : MI) (v1 : Int64) (v3 : Int64) (Q : Int32 → Prop) : Prop :=
    ((¬ (I 336 9) = 1 → Q 0) ∧ ((I 336 9) = 1 → ((8 ≤ ((I 336 8) - (I 336 10)) → Q 0) ∧ (¬ 8 ≤ ((I 336 8) - (I 336 10)) → ((¬ (lg_cmp v3 v1) = 0 → Q 0) ∧ ((lg_cmp v3 v1) = 0 → Q 1))))))
set_option maxRecDepth 20000 in
theorem jnt_X10_isWord_62 {E : Ev} {l : Launch} {n : Nat} {R : MR} (hn : 349 ≤ n) (hG : GRm R) {Q : Int32 → Prop} {I : MI} {L : ML} {v1 : Int64} {v3 : Int64} (h : jn_X10_isWord_62 I v1 v3 Q) : X E l rm_X10_isWord yX10_isWord cX10_isWord 6 (some .boolean) noX (ZM E rm_X10_isWord (Qi n R (P00 I L Q))) 62 [(0, .ref 336), (1, .long v1), (3, .long v3)] [] n I L R 0 0 := by
  unfold jn_X10_isWord_62 at h
  refine x_aload_n dX10_isWord_62 rfl ?_
  refine x_geti dX10_isWord_63 fk_RX10_90 (km rfl hn) sh_336 ?_
  refine x_iconst (v := 1) dX10_isWord_66 ki_1 ?_
  refine x_icmp_ne dX10_isWord_67 (tgt := 94) rfl ⟨fun c7 => ?_, fun c7 => ?_⟩
  · have h := h.1 c7
    refine x_iconst (v := 0) dX10_isWord_94 ki_0 ?_
    exact x_zreturn dX10_isWord_95 rfl ⟨_, rfl, rfl, rfl, rfl, rfl, h⟩
  · have h := h.2 c7
    refine x_aload_n dX10_isWord_70 rfl ?_
    refine x_geti dX10_isWord_71 fk_RX10_71 (km rfl hn) sh_336 ?_
    refine x_aload_n dX10_isWord_74 rfl ?_
    refine x_geti dX10_isWord_75 fk_RX10_74 (km rfl hn) sh_336 ?_
    refine x_isub dX10_isWord_78 ?_
    refine x_bipush (v := 8) dX10_isWord_79 kb_8 ?_
    refine x_icmp_ge dX10_isWord_81 (tgt := 94) rfl ⟨fun c8 => ?_, fun c8 => ?_⟩
    · have h := h.1 c8
      refine x_iconst (v := 0) dX10_isWord_94 ki_0 ?_
      exact x_zreturn dX10_isWord_95 rfl ⟨_, rfl, rfl, rfl, rfl, rfl, h⟩
    · have h := h.2 c8
      refine x_lload_n dX10_isWord_84 rfl ?_
      refine x_lload_n dX10_isWord_85 rfl ?_
      refine x_lcmp dX10_isWord_86 ?_
      refine x_if_ne dX10_isWord_87 (tgt := 94) rfl ⟨fun c9 => ?_, fun c9 => ?_⟩
      · have h := h.1 c9
        refine x_iconst (v := 0) dX10_isWord_94 ki_0 ?_
        exact x_zreturn dX10_isWord_95 rfl ⟨_, rfl, rfl, rfl, rfl, rfl, h⟩
      · have h := h.2 c9
        refine x_iconst (v := 1) dX10_isWord_90 ki_1 ?_
        refine x_goto dX10_isWord_91 (tgt := 95) rfl ?_
        exact x_zreturn dX10_isWord_95 rfl ⟨_, rfl, rfl, rfl, rfl, rfl, h⟩
def wp_X10_isWord (I : MI) (v1 : Int64) (Q : Int32 → Prop) : Prop :=
    (∃ N5, lp_X10_isWord_8 I (fun x6 => (jn_X10_isWord_62 I v1 x6 Q)) N5 0 (I 336 10))
set_option maxRecDepth 20000 in
theorem mt_X10_isWord {E : Ev} {l : Launch} {n : Nat} {R : MR} (hn : 349 ≤ n) (hG : GRm R) {I : MI} {L : ML} {v1 : Int64} {Q : Int32 → Prop} (h : wp_X10_isWord I v1 Q) : MX E l rm_X10_isWord yX10_isWord cX10_isWord 6 (some .boolean) [.ref 336, .long v1] n I L R (Qi n R (P00 I L Q)) := by
  refine MX_of (ls := [(0, .ref 336), (1, .long v1)]) (by decide) (Nat.le_of_ble_eq_true rfl) rfl ?_
  unfold wp_X10_isWord at h
  refine x_lconst (v := 0) dX10_isWord_0 rfl ?_
  refine x_lstore_n (ls' := [(3, .long 0), (0, .ref 336), (1, .long v1)]) dX10_isWord_1 (Nat.le_of_ble_eq_true rfl) rfl ?_
  refine x_aload_n dX10_isWord_2 rfl ?_
  refine x_geti dX10_isWord_3 fk_RX10_74 (km rfl hn) sh_336 ?_
  refine x_istore (ls' := [(5, .int (I 336 10)), (3, .long 0), (0, .ref 336), (1, .long v1)]) dX10_isWord_6 (Nat.le_of_ble_eq_true rfl) rfl ?_
  refine x_ls (ls' := [(0, .ref 336), (1, .long v1), (3, .long 0), (5, .int (I 336 10))]) [2, 3, 1, 0] rfl ?_
  obtain ⟨N5, h⟩ := h
  refine lpt_X10_isWord_8 hn hG (fun x6 h => ?_) N5 0 (I 336 10) h
  exact jnt_X10_isWord_62 hn hG  h
abbrev rm_X10_wrong : Room := { frames := 0, cells := 0, slots := 0, locals := 0 }
def wp_X10_wrong (I : MI) (v1 : Int32) (Q : MI → Prop) : Prop :=
    ((¬ (I 336 12) = (-1) → Q I) ∧ ((I 336 12) = (-1) → (∀ I2, I2 = u2 I 336 12 v1 → Q I2)))
set_option maxRecDepth 20000 in
theorem mt_X10_wrong {E : Ev} {l : Launch} {n : Nat} {R : MR} (hn : 349 ≤ n) (hG : GRm R) {I : MI} {L : ML} {v1 : Int32} {Q : MI → Prop} (h : wp_X10_wrong I v1 Q) : MX E l rm_X10_wrong yX10_wrong cX10_wrong 2 none [.ref 336, .int v1] n I L R (Qv n R (V10 I L Q)) := by
  refine MX_of (ls := [(0, .ref 336), (1, .int v1)]) (by decide) (Nat.le_of_ble_eq_true rfl) rfl ?_
  unfold wp_X10_wrong at h
  refine x_aload_n dX10_wrong_0 rfl ?_
  refine x_geti dX10_wrong_1 fk_RX10_68 (km rfl hn) sh_336 ?_
  refine x_iconst (v := (-1)) dX10_wrong_4 ki_m1 ?_
  refine x_icmp_ne dX10_wrong_5 (tgt := 13) rfl ⟨fun c1 => ?_, fun c1 => ?_⟩
  · have h := h.1 c1
    exact x_return dX10_wrong_13 ⟨rfl, rfl, rfl, rfl, h⟩
  · have h := h.2 c1
    refine x_aload_n dX10_wrong_8 rfl ?_
    refine x_iload_n dX10_wrong_9 rfl ?_
    refine x_puti dX10_wrong_10 fk_RX10_68 fw_8_12 (vp_nar_int _) rfl (km rfl hn) sh_336 (fun I2 eI2 => ?_)
    have h := h I2 eI2
    exact x_return dX10_wrong_13 ⟨rfl, rfl, rfl, rfl, h⟩
abbrev rm_X10_nextToken : Room := { frames := 2, cells := 0, slots := 0, locals := 43 }
def jn_X10_nextToken_44 (I : MI) (kj5 : MI → Prop) : Prop :=
    (∀ I4, I4 = u2 I 336 8 ((I 336 8) + 1) → kj5 I4)
set_option maxRecDepth 20000 in
theorem jnt_X10_nextToken_44 {E : Ev} {l : Launch} {n : Nat} {R : MR} (hn : 349 ≤ n) (hG : GRm R) {I0 : MI} {Q : MI → Prop} {I : MI} {L : ML} {v1 : Int32} {kj5 : MI → Prop}
    (hJ5 : ∀ (I : MI), kj5 I → X E l rm_X10_nextToken yX10_nextToken cX10_nextToken 2 none noX (ZM E rm_X10_nextToken (Qv n R (V10 I0 L Q))) 5 [(0, .ref 336), (1, .int v1)] [] n I L R 0 0) (h : jn_X10_nextToken_44 I kj5) : X E l rm_X10_nextToken yX10_nextToken cX10_nextToken 2 none noX (ZM E rm_X10_nextToken (Qv n R (V10 I0 L Q))) 44 [(0, .ref 336), (1, .int v1)] [] n I L R 0 0 := by
  unfold jn_X10_nextToken_44 at h
  refine x_aload_n dX10_nextToken_44 rfl ?_
  refine x_dup dX10_nextToken_45 rfl ?_
  refine x_geti dX10_nextToken_46 fk_RX10_71 (km rfl hn) sh_336 ?_
  refine x_iconst (v := 1) dX10_nextToken_49 ki_1 ?_
  refine x_iadd dX10_nextToken_50 ?_
  refine x_puti dX10_nextToken_51 fk_RX10_71 fw_8_8 (vp_nar_int _) rfl (km rfl hn) sh_336 (fun I4 eI4 => ?_)
  have h := h I4 eI4
  refine x_goto dX10_nextToken_54 (tgt := 5) rfl ?_
  exact hJ5 I4 h
def lp_X10_nextToken_5 (kf57 : MI → Prop) : Nat → MI → Prop
  | 0, _ => False
  | n + 1, I =>
    (((I 336 7) ≤ (I 336 8) → kf57 I) ∧ (¬ (I 336 7) ≤ (I 336 8) → (vp_in (I 336 8) 400 ∧ (((I 340 (ix (I 336 8))) = 32 → (jn_X10_nextToken_44 I (fun I5 => (lp_X10_nextToken_5 kf57 n I5)))) ∧ (¬ (I 340 (ix (I 336 8))) = 32 → (vp_in (I 336 8) 400 ∧ ((¬ (I 340 (ix (I 336 8))) = 10 → kf57 I) ∧ ((I 340 (ix (I 336 8))) = 10 → (jn_X10_nextToken_44 I (fun I8 => (lp_X10_nextToken_5 kf57 n I8)))))))))))
set_option maxRecDepth 20000 in
theorem lpt_X10_nextToken_5 {E : Ev} {l : Launch} {n : Nat} {R : MR} (hn : 349 ≤ n) (hG : GRm R) {I0 : MI} {Q : MI → Prop} {v1 : Int32} {L : ML} {kf57 : MI → Prop}
    (hK57 : ∀ (I : MI), kf57 I → X E l rm_X10_nextToken yX10_nextToken cX10_nextToken 2 none noX (ZM E rm_X10_nextToken (Qv n R (V10 I0 L Q))) 57 [(0, .ref 336), (1, .int v1)] [] n I L R 0 0) : ∀ (N : Nat) (I : MI), lp_X10_nextToken_5 kf57 N I → X E l rm_X10_nextToken yX10_nextToken cX10_nextToken 2 none noX (ZM E rm_X10_nextToken (Qv n R (V10 I0 L Q))) 5 [(0, .ref 336), (1, .int v1)] [] n I L R 0 0 := by
  intro N
  induction N with
  | zero => intro I h; exact False.elim h
  | succ N ih =>
    intro I h
    unfold lp_X10_nextToken_5 at h
    refine x_aload_n dX10_nextToken_5 rfl ?_
    refine x_geti dX10_nextToken_6 fk_RX10_71 (km rfl hn) sh_336 ?_
    refine x_aload_n dX10_nextToken_9 rfl ?_
    refine x_geti dX10_nextToken_10 fk_RX10_65 (km rfl hn) sh_336 ?_
    refine x_icmp_ge dX10_nextToken_13 (tgt := 57) rfl ⟨fun c1 => ?_, fun c1 => ?_⟩
    · have h := h.1 c1
      exact hK57 I h
    · have h := h.2 c1
      refine x_aload_n dX10_nextToken_16 rfl ?_
      refine x_getr (j := 340) dX10_nextToken_17 fk_RX10_19 (km rfl hn) sh_336 (rt_336_5 hG) ?_
      refine x_aload_n dX10_nextToken_20 rfl ?_
      refine x_geti dX10_nextToken_21 fk_RX10_71 (km rfl hn) sh_336 ?_
      obtain ⟨b2, h⟩ := h
      refine x_iaload dX10_nextToken_24 (km rfl hn) sh_340 b2 ?_
      refine x_bipush (v := 32) dX10_nextToken_25 kb_32 ?_
      refine x_icmp_eq dX10_nextToken_27 (tgt := 44) rfl ⟨fun c3 => ?_, fun c3 => ?_⟩
      · have h := h.1 c3
        refine jnt_X10_nextToken_44 hn hG (fun I5 h => ?_) h
        exact ih I5 h
      · have h := h.2 c3
        refine x_aload_n dX10_nextToken_30 rfl ?_
        refine x_getr (j := 340) dX10_nextToken_31 fk_RX10_19 (km rfl hn) sh_336 (rt_336_5 hG) ?_
        refine x_aload_n dX10_nextToken_34 rfl ?_
        refine x_geti dX10_nextToken_35 fk_RX10_71 (km rfl hn) sh_336 ?_
        obtain ⟨b6, h⟩ := h
        refine x_iaload dX10_nextToken_38 (km rfl hn) sh_340 b6 ?_
        refine x_bipush (v := 10) dX10_nextToken_39 kb_10 ?_
        refine x_icmp_ne dX10_nextToken_41 (tgt := 57) rfl ⟨fun c7 => ?_, fun c7 => ?_⟩
        · have h := h.1 c7
          exact hK57 I h
        · have h := h.2 c7
          refine jnt_X10_nextToken_44 hn hG (fun I8 h => ?_) h
          exact ih I8 h
def jn_X10_nextToken_267 (I : MI) (s0 : Int32) (kj216 : MI → Prop) : Prop :=
    (∀ I28, I28 = u2 I 336 11 s0 → (∀ I29, I29 = u2 I28 336 8 ((I28 336 8) + 1) → kj216 I29))
set_option maxRecDepth 20000 in
theorem jnt_X10_nextToken_267 {E : Ev} {l : Launch} {n : Nat} {R : MR} (hn : 349 ≤ n) (hG : GRm R) {I0 : MI} {Q : MI → Prop} {I : MI} {L : ML} {s0 : Int32} {kj216 : MI → Prop}
    (hJ216 : ∀ (I : MI), kj216 I → X E l rm_X10_nextToken yX10_nextToken cX10_nextToken 2 none noX (ZM E rm_X10_nextToken (Qv n R (V10 I0 L Q))) 216 [(0, .ref 336)] [] n I L R 0 0) (h : jn_X10_nextToken_267 I s0 kj216) : X E l rm_X10_nextToken yX10_nextToken cX10_nextToken 2 none noX (ZM E rm_X10_nextToken (Qv n R (V10 I0 L Q))) 267 [(0, .ref 336)] [.int s0, .ref 336] n I L R 0 0 := by
  unfold jn_X10_nextToken_267 at h
  refine x_puti dX10_nextToken_267 fk_RX10_77 fw_8_11 (vp_nar_int _) rfl (km rfl hn) sh_336 (fun I28 eI28 => ?_)
  have h := h I28 eI28
  refine x_aload_n dX10_nextToken_270 rfl ?_
  refine x_dup dX10_nextToken_271 rfl ?_
  refine x_geti dX10_nextToken_272 fk_RX10_71 (km rfl hn) sh_336 ?_
  refine x_iconst (v := 1) dX10_nextToken_275 ki_1 ?_
  refine x_iadd dX10_nextToken_276 ?_
  refine x_puti dX10_nextToken_277 fk_RX10_71 fw_8_8 (vp_nar_int _) rfl (km rfl hn) sh_336 (fun I29 eI29 => ?_)
  have h := h I29 eI29
  refine x_goto dX10_nextToken_280 (tgt := 216) rfl ?_
  exact hJ216 I29 h
def lp_X10_nextToken_216 (Q : MI → Prop) : Nat → MI → Prop
  | 0, _ => False
  | n + 1, I =>
    (wp_X10_isDigit I (I 336 8) (fun x24 => (((x24 = 0 → Q I) ∧ (¬ x24 = 0 → ((((I 336 8) - (I 336 10)) ≤ 1 → (vp_in (I 336 8) 400 ∧ (jn_X10_nextToken_267 I (((10 * (I 336 11)) + (I 340 (ix (I 336 8)))) - 48) (fun I30 => (lp_X10_nextToken_216 Q n I30))))) ∧ (¬ ((I 336 8) - (I 336 10)) ≤ 1 → (jn_X10_nextToken_267 I 1000 (fun I31 => (lp_X10_nextToken_216 Q n I31))))))))))
set_option maxRecDepth 20000 in
theorem lpt_X10_nextToken_216 {E : Ev} {l : Launch} {n : Nat} {R : MR} (hn : 349 ≤ n) (hG : GRm R) {I0 : MI} {Q : MI → Prop} {L : ML} : ∀ (N : Nat) (I : MI), lp_X10_nextToken_216 Q N I → X E l rm_X10_nextToken yX10_nextToken cX10_nextToken 2 none noX (ZM E rm_X10_nextToken (Qv n R (V10 I0 L Q))) 216 [(0, .ref 336)] [] n I L R 0 0 := by
  intro N
  induction N with
  | zero => intro I h; exact False.elim h
  | succ N ih =>
    intro I h
    unfold lp_X10_nextToken_216 at h
    refine x_aload_n dX10_nextToken_216 rfl ?_
    refine x_aload_n dX10_nextToken_217 rfl ?_
    refine x_geti dX10_nextToken_218 fk_RX10_71 (km rfl hn) sh_336 ?_
    refine x_cVi00 [.int (I 336 8)] (mt_X10_isDigit hn hG h) dX10_nextToken_221 lk_RX10_83 (km rfl hn) sh_336 rfl rfl (Nat.le_of_ble_eq_true rfl) (Rf_of rfl) (fun x24 h => ?_)
    refine x_if_eq dX10_nextToken_224 (tgt := 311) rfl ⟨fun c25 => ?_, fun c25 => ?_⟩
    · have h := h.1 c25
      exact x_return dX10_nextToken_311 ⟨rfl, rfl, rfl, rfl, h⟩
    · have h := h.2 c25
      refine x_aload_n dX10_nextToken_227 rfl ?_
      refine x_aload_n dX10_nextToken_228 rfl ?_
      refine x_geti dX10_nextToken_229 fk_RX10_71 (km rfl hn) sh_336 ?_
      refine x_aload_n dX10_nextToken_232 rfl ?_
      refine x_geti dX10_nextToken_233 fk_RX10_74 (km rfl hn) sh_336 ?_
      refine x_isub dX10_nextToken_236 ?_
      refine x_iconst (v := 1) dX10_nextToken_237 ki_1 ?_
      refine x_icmp_le dX10_nextToken_238 (tgt := 247) rfl ⟨fun c26 => ?_, fun c26 => ?_⟩
      · have h := h.1 c26
        refine x_bipush (v := 10) dX10_nextToken_247 kb_10 ?_
        refine x_aload_n dX10_nextToken_249 rfl ?_
        refine x_geti dX10_nextToken_250 fk_RX10_77 (km rfl hn) sh_336 ?_
        refine x_imul dX10_nextToken_253 ?_
        refine x_aload_n dX10_nextToken_254 rfl ?_
        refine x_getr (j := 340) dX10_nextToken_255 fk_RX10_19 (km rfl hn) sh_336 (rt_336_5 hG) ?_
        refine x_aload_n dX10_nextToken_258 rfl ?_
        refine x_geti dX10_nextToken_259 fk_RX10_71 (km rfl hn) sh_336 ?_
        obtain ⟨b27, h⟩ := h
        refine x_iaload dX10_nextToken_262 (km rfl hn) sh_340 b27 ?_
        refine x_iadd dX10_nextToken_263 ?_
        refine x_bipush (v := 48) dX10_nextToken_264 kb_48 ?_
        refine x_isub dX10_nextToken_266 ?_
        refine jnt_X10_nextToken_267 hn hG (fun I30 h => ?_) h
        exact ih I30 h
      · have h := h.2 c26
        refine x_sipush (v := 1000) dX10_nextToken_241 ks_1000 ?_
        refine x_goto dX10_nextToken_244 (tgt := 267) rfl ?_
        refine jnt_X10_nextToken_267 hn hG (fun I31 h => ?_) h
        exact ih I31 h
def lp_X10_nextToken_176 (Q : MI → Prop) : Nat → MI → Prop
  | 0, _ => False
  | n + 1, I =>
    (wp_X10_isLetter I (I 336 8) (fun x34 => (((x34 = 0 → Q I) ∧ (¬ x34 = 0 → (∀ I36, I36 = u2 I 336 8 ((I 336 8) + 1) → (lp_X10_nextToken_176 Q n I36)))))))
set_option maxRecDepth 20000 in
theorem lpt_X10_nextToken_176 {E : Ev} {l : Launch} {n : Nat} {R : MR} (hn : 349 ≤ n) (hG : GRm R) {I0 : MI} {Q : MI → Prop} {L : ML} : ∀ (N : Nat) (I : MI), lp_X10_nextToken_176 Q N I → X E l rm_X10_nextToken yX10_nextToken cX10_nextToken 2 none noX (ZM E rm_X10_nextToken (Qv n R (V10 I0 L Q))) 176 [(0, .ref 336)] [] n I L R 0 0 := by
  intro N
  induction N with
  | zero => intro I h; exact False.elim h
  | succ N ih =>
    intro I h
    unfold lp_X10_nextToken_176 at h
    refine x_aload_n dX10_nextToken_176 rfl ?_
    refine x_aload_n dX10_nextToken_177 rfl ?_
    refine x_geti dX10_nextToken_178 fk_RX10_71 (km rfl hn) sh_336 ?_
    refine x_cVi00 [.int (I 336 8)] (mt_X10_isLetter hn hG h) dX10_nextToken_181 lk_RX10_80 (km rfl hn) sh_336 rfl rfl (Nat.le_of_ble_eq_true rfl) (Rf_of rfl) (fun x34 h => ?_)
    refine x_if_eq dX10_nextToken_184 (tgt := 311) rfl ⟨fun c35 => ?_, fun c35 => ?_⟩
    · have h := h.1 c35
      exact x_return dX10_nextToken_311 ⟨rfl, rfl, rfl, rfl, h⟩
    · have h := h.2 c35
      refine x_aload_n dX10_nextToken_187 rfl ?_
      refine x_dup dX10_nextToken_188 rfl ?_
      refine x_geti dX10_nextToken_189 fk_RX10_71 (km rfl hn) sh_336 ?_
      refine x_iconst (v := 1) dX10_nextToken_192 ki_1 ?_
      refine x_iadd dX10_nextToken_193 ?_
      refine x_puti dX10_nextToken_194 fk_RX10_71 fw_8_8 (vp_nar_int _) rfl (km rfl hn) sh_336 (fun I36 eI36 => ?_)
      have h := h I36 eI36
      refine x_goto dX10_nextToken_197 (tgt := 176) rfl ?_
      exact ih I36 h
def jn_X10_nextToken_141 (I : MI) (Q : MI → Prop) : Prop :=
    ((¬ (I 336 8) = (I 336 7) → (wp_X10_isLetter I (I 336 8) (fun x15 => (((x15 = 0 → (wp_X10_isDigit I (I 336 8) (fun x17 => (((x17 = 0 → (∀ I19, I19 = u2 I 336 9 3 → (vp_in (I19 336 8) 400 ∧ (∀ I21, I21 = u2 I19 336 11 (I19 340 (ix (I19 336 8))) → (∀ I22, I22 = u2 I21 336 8 ((I21 336 8) + 1) → Q I22))))) ∧ (¬ x17 = 0 → (∀ I23, I23 = u2 I 336 9 2 → (∃ N32, lp_X10_nextToken_216 Q N32 I23)))))))) ∧ (¬ x15 = 0 → (∀ I33, I33 = u2 I 336 9 1 → (∃ N37, lp_X10_nextToken_176 Q N37 I33)))))))) ∧ ((I 336 8) = (I 336 7) → (∀ I38, I38 = u2 I 336 9 0 → Q I38)))
set_option maxRecDepth 20000 in
theorem jnt_X10_nextToken_141 {E : Ev} {l : Launch} {n : Nat} {R : MR} (hn : 349 ≤ n) (hG : GRm R) {I0 : MI} {Q : MI → Prop} {I : MI} {L : ML} (h : jn_X10_nextToken_141 I Q) : X E l rm_X10_nextToken yX10_nextToken cX10_nextToken 2 none noX (ZM E rm_X10_nextToken (Qv n R (V10 I0 L Q))) 141 [(0, .ref 336)] [] n I L R 0 0 := by
  unfold jn_X10_nextToken_141 at h
  refine x_aload_n dX10_nextToken_141 rfl ?_
  refine x_geti dX10_nextToken_142 fk_RX10_71 (km rfl hn) sh_336 ?_
  refine x_aload_n dX10_nextToken_145 rfl ?_
  refine x_geti dX10_nextToken_146 fk_RX10_65 (km rfl hn) sh_336 ?_
  refine x_icmp_ne dX10_nextToken_149 (tgt := 160) rfl ⟨fun c14 => ?_, fun c14 => ?_⟩
  · have h := h.1 c14
    refine x_aload_n dX10_nextToken_160 rfl ?_
    refine x_aload_n dX10_nextToken_161 rfl ?_
    refine x_geti dX10_nextToken_162 fk_RX10_71 (km rfl hn) sh_336 ?_
    refine x_cVi00 [.int (I 336 8)] (mt_X10_isLetter hn hG h) dX10_nextToken_165 lk_RX10_80 (km rfl hn) sh_336 rfl rfl (Nat.le_of_ble_eq_true rfl) (Rf_of rfl) (fun x15 h => ?_)
    refine x_if_eq dX10_nextToken_168 (tgt := 200) rfl ⟨fun c16 => ?_, fun c16 => ?_⟩
    · have h := h.1 c16
      refine x_aload_n dX10_nextToken_200 rfl ?_
      refine x_aload_n dX10_nextToken_201 rfl ?_
      refine x_geti dX10_nextToken_202 fk_RX10_71 (km rfl hn) sh_336 ?_
      refine x_cVi00 [.int (I 336 8)] (mt_X10_isDigit hn hG h) dX10_nextToken_205 lk_RX10_83 (km rfl hn) sh_336 rfl rfl (Nat.le_of_ble_eq_true rfl) (Rf_of rfl) (fun x17 h => ?_)
      refine x_if_eq dX10_nextToken_208 (tgt := 283) rfl ⟨fun c18 => ?_, fun c18 => ?_⟩
      · have h := h.1 c18
        refine x_aload_n dX10_nextToken_283 rfl ?_
        refine x_iconst (v := 3) dX10_nextToken_284 ki_3 ?_
        refine x_puti dX10_nextToken_285 fk_RX10_90 fw_8_9 (vp_nar_int _) rfl (km rfl hn) sh_336 (fun I19 eI19 => ?_)
        have h := h I19 eI19
        refine x_aload_n dX10_nextToken_288 rfl ?_
        refine x_aload_n dX10_nextToken_289 rfl ?_
        refine x_getr (j := 340) dX10_nextToken_290 fk_RX10_19 (km rfl hn) sh_336 (rt_336_5 hG) ?_
        refine x_aload_n dX10_nextToken_293 rfl ?_
        refine x_geti dX10_nextToken_294 fk_RX10_71 (km rfl hn) sh_336 ?_
        obtain ⟨b20, h⟩ := h
        refine x_iaload dX10_nextToken_297 (km rfl hn) sh_340 b20 ?_
        refine x_puti dX10_nextToken_298 fk_RX10_77 fw_8_11 (vp_nar_int _) rfl (km rfl hn) sh_336 (fun I21 eI21 => ?_)
        have h := h I21 eI21
        refine x_aload_n dX10_nextToken_301 rfl ?_
        refine x_dup dX10_nextToken_302 rfl ?_
        refine x_geti dX10_nextToken_303 fk_RX10_71 (km rfl hn) sh_336 ?_
        refine x_iconst (v := 1) dX10_nextToken_306 ki_1 ?_
        refine x_iadd dX10_nextToken_307 ?_
        refine x_puti dX10_nextToken_308 fk_RX10_71 fw_8_8 (vp_nar_int _) rfl (km rfl hn) sh_336 (fun I22 eI22 => ?_)
        have h := h I22 eI22
        exact x_return dX10_nextToken_311 ⟨rfl, rfl, rfl, rfl, h⟩
      · have h := h.2 c18
        refine x_aload_n dX10_nextToken_211 rfl ?_
        refine x_iconst (v := 2) dX10_nextToken_212 ki_2 ?_
        refine x_puti dX10_nextToken_213 fk_RX10_90 fw_8_9 (vp_nar_int _) rfl (km rfl hn) sh_336 (fun I23 eI23 => ?_)
        have h := h I23 eI23
        obtain ⟨N32, h⟩ := h
        exact lpt_X10_nextToken_216 hn hG  N32 I23 h
    · have h := h.2 c16
      refine x_aload_n dX10_nextToken_171 rfl ?_
      refine x_iconst (v := 1) dX10_nextToken_172 ki_1 ?_
      refine x_puti dX10_nextToken_173 fk_RX10_90 fw_8_9 (vp_nar_int _) rfl (km rfl hn) sh_336 (fun I33 eI33 => ?_)
      have h := h I33 eI33
      obtain ⟨N37, h⟩ := h
      exact lpt_X10_nextToken_176 hn hG  N37 I33 h
  · have h := h.2 c14
    refine x_aload_n dX10_nextToken_152 rfl ?_
    refine x_iconst (v := 0) dX10_nextToken_153 ki_0 ?_
    refine x_puti dX10_nextToken_154 fk_RX10_90 fw_8_9 (vp_nar_int _) rfl (km rfl hn) sh_336 (fun I38 eI38 => ?_)
    have h := h I38 eI38
    refine x_goto dX10_nextToken_157 (tgt := 311) rfl ?_
    exact x_return dX10_nextToken_311 ⟨rfl, rfl, rfl, rfl, h⟩
def jn_X10_nextToken_133 (I : MI) (Q : MI → Prop) : Prop :=
    (wp_X10_wrong I (I 336 8) (fun I44 => ((jn_X10_nextToken_141 I44 Q))))
set_option maxRecDepth 20000 in
theorem jnt_X10_nextToken_133 {E : Ev} {l : Launch} {n : Nat} {R : MR} (hn : 349 ≤ n) (hG : GRm R) {I0 : MI} {Q : MI → Prop} {I : MI} {L : ML} (h : jn_X10_nextToken_133 I Q) : X E l rm_X10_nextToken yX10_nextToken cX10_nextToken 2 none noX (ZM E rm_X10_nextToken (Qv n R (V10 I0 L Q))) 133 [(0, .ref 336)] [] n I L R 0 0 := by
  unfold jn_X10_nextToken_133 at h
  refine x_aload_n dX10_nextToken_133 rfl ?_
  refine x_aload_n dX10_nextToken_134 rfl ?_
  refine x_geti dX10_nextToken_135 fk_RX10_71 (km rfl hn) sh_336 ?_
  refine x_cVv10 [.int (I 336 8)] (mt_X10_wrong hn hG h) dX10_nextToken_138 lk_RX10_86 (km rfl hn) sh_336 rfl rfl (Nat.le_of_ble_eq_true rfl) (Rf_of rfl) (fun I44 h => ?_)
  exact jnt_X10_nextToken_141 hn hG  h
def jn_X10_nextToken_107 (I : MI) (Q : MI → Prop) : Prop :=
    (wp_X10_isLetter I ((I 336 8) - 1) (fun x42 => (((¬ x42 = 0 → (jn_X10_nextToken_133 I Q)) ∧ (x42 = 0 → (wp_X10_isDigit I ((I 336 8) - 1) (fun x45 => (((x45 = 0 → (jn_X10_nextToken_141 I Q)) ∧ (¬ x45 = 0 → (jn_X10_nextToken_133 I Q)))))))))))
set_option maxRecDepth 20000 in
theorem jnt_X10_nextToken_107 {E : Ev} {l : Launch} {n : Nat} {R : MR} (hn : 349 ≤ n) (hG : GRm R) {I0 : MI} {Q : MI → Prop} {I : MI} {L : ML} (h : jn_X10_nextToken_107 I Q) : X E l rm_X10_nextToken yX10_nextToken cX10_nextToken 2 none noX (ZM E rm_X10_nextToken (Qv n R (V10 I0 L Q))) 107 [(0, .ref 336)] [] n I L R 0 0 := by
  unfold jn_X10_nextToken_107 at h
  refine x_aload_n dX10_nextToken_107 rfl ?_
  refine x_aload_n dX10_nextToken_108 rfl ?_
  refine x_geti dX10_nextToken_109 fk_RX10_71 (km rfl hn) sh_336 ?_
  refine x_iconst (v := 1) dX10_nextToken_112 ki_1 ?_
  refine x_isub dX10_nextToken_113 ?_
  refine x_cVi00 [.int ((I 336 8) - 1)] (mt_X10_isLetter hn hG h) dX10_nextToken_114 lk_RX10_80 (km rfl hn) sh_336 rfl rfl (Nat.le_of_ble_eq_true rfl) (Rf_of rfl) (fun x42 h => ?_)
  refine x_if_ne dX10_nextToken_117 (tgt := 133) rfl ⟨fun c43 => ?_, fun c43 => ?_⟩
  · have h := h.1 c43
    exact jnt_X10_nextToken_133 hn hG  h
  · have h := h.2 c43
    refine x_aload_n dX10_nextToken_120 rfl ?_
    refine x_aload_n dX10_nextToken_121 rfl ?_
    refine x_geti dX10_nextToken_122 fk_RX10_71 (km rfl hn) sh_336 ?_
    refine x_iconst (v := 1) dX10_nextToken_125 ki_1 ?_
    refine x_isub dX10_nextToken_126 ?_
    refine x_cVi00 [.int ((I 336 8) - 1)] (mt_X10_isDigit hn hG h) dX10_nextToken_127 lk_RX10_83 (km rfl hn) sh_336 rfl rfl (Nat.le_of_ble_eq_true rfl) (Rf_of rfl) (fun x45 h => ?_)
    refine x_if_eq dX10_nextToken_130 (tgt := 141) rfl ⟨fun c46 => ?_, fun c46 => ?_⟩
    · have h := h.1 c46
      exact jnt_X10_nextToken_141 hn hG  h
    · have h := h.2 c46
      exact jnt_X10_nextToken_133 hn hG  h
def jn_X10_nextToken_57 (I : MI) (v1 : Int32) (Q : MI → Prop) : Prop :=
    (∀ I11, I11 = u2 I 336 10 (I 336 8) → (∀ I12, I12 = u2 I11 336 11 0 → ((¬ (I12 336 8) = v1 → (jn_X10_nextToken_141 I12 Q)) ∧ ((I12 336 8) = v1 → (((I12 336 8) ≤ 0 → (jn_X10_nextToken_141 I12 Q)) ∧ (¬ (I12 336 8) ≤ 0 → (wp_X10_isLetter I12 (I12 336 8) (fun x40 => (((¬ x40 = 0 → (jn_X10_nextToken_107 I12 Q)) ∧ (x40 = 0 → (wp_X10_isDigit I12 (I12 336 8) (fun x47 => (((x47 = 0 → (jn_X10_nextToken_141 I12 Q)) ∧ (¬ x47 = 0 → (jn_X10_nextToken_107 I12 Q)))))))))))))))))
set_option maxRecDepth 20000 in
theorem jnt_X10_nextToken_57 {E : Ev} {l : Launch} {n : Nat} {R : MR} (hn : 349 ≤ n) (hG : GRm R) {I0 : MI} {Q : MI → Prop} {I : MI} {L : ML} {v1 : Int32} (h : jn_X10_nextToken_57 I v1 Q) : X E l rm_X10_nextToken yX10_nextToken cX10_nextToken 2 none noX (ZM E rm_X10_nextToken (Qv n R (V10 I0 L Q))) 57 [(0, .ref 336), (1, .int v1)] [] n I L R 0 0 := by
  unfold jn_X10_nextToken_57 at h
  refine x_aload_n dX10_nextToken_57 rfl ?_
  refine x_aload_n dX10_nextToken_58 rfl ?_
  refine x_geti dX10_nextToken_59 fk_RX10_71 (km rfl hn) sh_336 ?_
  refine x_puti dX10_nextToken_62 fk_RX10_74 fw_8_10 (vp_nar_int _) rfl (km rfl hn) sh_336 (fun I11 eI11 => ?_)
  have h := h I11 eI11
  refine x_aload_n dX10_nextToken_65 rfl ?_
  refine x_iconst (v := 0) dX10_nextToken_66 ki_0 ?_
  refine x_puti dX10_nextToken_67 fk_RX10_77 fw_8_11 (vp_nar_int _) rfl (km rfl hn) sh_336 (fun I12 eI12 => ?_)
  have h := h I12 eI12
  refine x_aload_n dX10_nextToken_70 rfl ?_
  refine x_geti dX10_nextToken_71 fk_RX10_71 (km rfl hn) sh_336 ?_
  refine x_iload_n dX10_nextToken_74 rfl ?_
  refine x_icmp_ne dX10_nextToken_75 (tgt := 141) rfl ⟨fun c13 => ?_, fun c13 => ?_⟩
  · have h := h.1 c13
    refine x_ls (ls' := [(0, .ref 336)]) [0] rfl ?_
    exact jnt_X10_nextToken_141 hn hG  h
  · have h := h.2 c13
    refine x_aload_n dX10_nextToken_78 rfl ?_
    refine x_geti dX10_nextToken_79 fk_RX10_71 (km rfl hn) sh_336 ?_
    refine x_if_le dX10_nextToken_82 (tgt := 141) rfl ⟨fun c39 => ?_, fun c39 => ?_⟩
    · have h := h.1 c39
      refine x_ls (ls' := [(0, .ref 336)]) [0] rfl ?_
      exact jnt_X10_nextToken_141 hn hG  h
    · have h := h.2 c39
      refine x_aload_n dX10_nextToken_85 rfl ?_
      refine x_aload_n dX10_nextToken_86 rfl ?_
      refine x_geti dX10_nextToken_87 fk_RX10_71 (km rfl hn) sh_336 ?_
      refine x_cVi00 [.int (I12 336 8)] (mt_X10_isLetter hn hG h) dX10_nextToken_90 lk_RX10_80 (km rfl hn) sh_336 rfl rfl (Nat.le_of_ble_eq_true rfl) (Rf_of rfl) (fun x40 h => ?_)
      refine x_if_ne dX10_nextToken_93 (tgt := 107) rfl ⟨fun c41 => ?_, fun c41 => ?_⟩
      · have h := h.1 c41
        refine x_ls (ls' := [(0, .ref 336)]) [0] rfl ?_
        exact jnt_X10_nextToken_107 hn hG  h
      · have h := h.2 c41
        refine x_aload_n dX10_nextToken_96 rfl ?_
        refine x_aload_n dX10_nextToken_97 rfl ?_
        refine x_geti dX10_nextToken_98 fk_RX10_71 (km rfl hn) sh_336 ?_
        refine x_cVi00 [.int (I12 336 8)] (mt_X10_isDigit hn hG h) dX10_nextToken_101 lk_RX10_83 (km rfl hn) sh_336 rfl rfl (Nat.le_of_ble_eq_true rfl) (Rf_of rfl) (fun x47 h => ?_)
        refine x_if_eq dX10_nextToken_104 (tgt := 141) rfl ⟨fun c48 => ?_, fun c48 => ?_⟩
        · have h := h.1 c48
          refine x_ls (ls' := [(0, .ref 336)]) [0] rfl ?_
          exact jnt_X10_nextToken_141 hn hG  h
        · have h := h.2 c48
          refine x_ls (ls' := [(0, .ref 336)]) [0] rfl ?_
          exact jnt_X10_nextToken_107 hn hG  h
def wp_X10_nextToken (I : MI) (Q : MI → Prop) : Prop :=
    (∃ N9, lp_X10_nextToken_5 (fun I10 => (jn_X10_nextToken_57 I10 (I 336 8) Q)) N9 I)
set_option maxRecDepth 20000 in
theorem mt_X10_nextToken {E : Ev} {l : Launch} {n : Nat} {R : MR} (hn : 349 ≤ n) (hG : GRm R) {I : MI} {L : ML} {Q : MI → Prop} (h : wp_X10_nextToken I Q) : MX E l rm_X10_nextToken yX10_nextToken cX10_nextToken 2 none [.ref 336] n I L R (Qv n R (V10 I L Q)) := by
  refine MX_of (ls := [(0, .ref 336)]) (by decide) (Nat.le_of_ble_eq_true rfl) rfl ?_
  unfold wp_X10_nextToken at h
  refine x_aload_n dX10_nextToken_0 rfl ?_
  refine x_geti dX10_nextToken_1 fk_RX10_71 (km rfl hn) sh_336 ?_
  refine x_istore_n (ls' := [(1, .int (I 336 8)), (0, .ref 336)]) dX10_nextToken_4 (Nat.le_of_ble_eq_true rfl) rfl ?_
  refine x_ls (ls' := [(0, .ref 336), (1, .int (I 336 8))]) [1, 0] rfl ?_
  obtain ⟨N9, h⟩ := h
  refine lpt_X10_nextToken_5 hn hG (fun I10 h => ?_) N9 I h
  exact jnt_X10_nextToken_57 hn hG  h
abbrev rm_X10_number : Room := { frames := 3, cells := 0, slots := 0, locals := 64 }
def jn_X10_number_36 (I : MI) (Q : Int32 → MI → Prop) : Prop :=
    (((I 336 12) = (-1) → (wp_X10_nextToken I (fun I3 => (Q (I 336 11) I3)))) ∧ (¬ (I 336 12) = (-1) → Q 0 I))
set_option maxRecDepth 20000 in
theorem jnt_X10_number_36 {E : Ev} {l : Launch} {n : Nat} {R : MR} (hn : 349 ≤ n) (hG : GRm R) {I0 : MI} {Q : Int32 → MI → Prop} {I : MI} {L : ML} (h : jn_X10_number_36 I Q) : X E l rm_X10_number yX10_number cX10_number 4 (some .int) noX (ZM E rm_X10_number (Qi n R (P10 I0 L Q))) 36 [(0, .ref 336)] [] n I L R 0 0 := by
  unfold jn_X10_number_36 at h
  refine x_aload_n dX10_number_36 rfl ?_
  refine x_geti dX10_number_37 fk_RX10_68 (km rfl hn) sh_336 ?_
  refine x_iconst (v := (-1)) dX10_number_40 ki_m1 ?_
  refine x_icmp_eq dX10_number_41 (tgt := 46) rfl ⟨fun c2 => ?_, fun c2 => ?_⟩
  · have h := h.1 c2
    refine x_aload_n dX10_number_46 rfl ?_
    refine x_geti dX10_number_47 fk_RX10_77 (km rfl hn) sh_336 ?_
    refine x_istore_n (ls' := [(3, .int (I 336 11)), (0, .ref 336)]) dX10_number_50 (Nat.le_of_ble_eq_true rfl) rfl ?_
    refine x_aload_n dX10_number_51 rfl ?_
    refine x_cVv10 [] (mt_X10_nextToken hn hG h) dX10_number_52 lk_RX10_97 (km rfl hn) sh_336 rfl rfl (Nat.le_of_ble_eq_true rfl) (Rf_of rfl) (fun I3 h => ?_)
    refine x_iload_n dX10_number_55 rfl ?_
    exact x_ireturn dX10_number_56 ⟨_, rfl, rfl, rfl, rfl, h⟩
  · have h := h.2 c2
    refine x_iconst (v := 0) dX10_number_44 ki_0 ?_
    exact x_ireturn dX10_number_45 ⟨_, rfl, rfl, rfl, rfl, h⟩
def jn_X10_number_28 (I : MI) (Q : Int32 → MI → Prop) : Prop :=
    (wp_X10_wrong I (I 336 10) (fun I5 => ((jn_X10_number_36 I5 Q))))
set_option maxRecDepth 20000 in
theorem jnt_X10_number_28 {E : Ev} {l : Launch} {n : Nat} {R : MR} (hn : 349 ≤ n) (hG : GRm R) {I0 : MI} {Q : Int32 → MI → Prop} {I : MI} {L : ML} (h : jn_X10_number_28 I Q) : X E l rm_X10_number yX10_number cX10_number 4 (some .int) noX (ZM E rm_X10_number (Qi n R (P10 I0 L Q))) 28 [(0, .ref 336)] [] n I L R 0 0 := by
  unfold jn_X10_number_28 at h
  refine x_aload_n dX10_number_28 rfl ?_
  refine x_aload_n dX10_number_29 rfl ?_
  refine x_geti dX10_number_30 fk_RX10_74 (km rfl hn) sh_336 ?_
  refine x_cVv10 [.int (I 336 10)] (mt_X10_wrong hn hG h) dX10_number_33 lk_RX10_86 (km rfl hn) sh_336 rfl rfl (Nat.le_of_ble_eq_true rfl) (Rf_of rfl) (fun I5 h => ?_)
  exact jnt_X10_number_36 hn hG  h
def wp_X10_number (I : MI) (v1 : Int32) (v2 : Int32) (Q : Int32 → MI → Prop) : Prop :=
    ((¬ (I 336 12) = (-1) → (jn_X10_number_36 I Q)) ∧ ((I 336 12) = (-1) → ((¬ (I 336 9) = 2 → (jn_X10_number_28 I Q)) ∧ ((I 336 9) = 2 → (wp_X10_isIn (I 336 11) v1 v2 (fun x6 => (((¬ x6 = 0 → (jn_X10_number_36 I Q)) ∧ (x6 = 0 → (jn_X10_number_28 I Q))))))))))
set_option maxRecDepth 20000 in
theorem mt_X10_number {E : Ev} {l : Launch} {n : Nat} {R : MR} (hn : 349 ≤ n) (hG : GRm R) {I : MI} {L : ML} {v1 : Int32} {v2 : Int32} {Q : Int32 → MI → Prop} (h : wp_X10_number I v1 v2 Q) : MX E l rm_X10_number yX10_number cX10_number 4 (some .int) [.ref 336, .int v1, .int v2] n I L R (Qi n R (P10 I L Q)) := by
  refine MX_of (ls := [(0, .ref 336), (1, .int v1), (2, .int v2)]) (by decide) (Nat.le_of_ble_eq_true rfl) rfl ?_
  unfold wp_X10_number at h
  refine x_aload_n dX10_number_0 rfl ?_
  refine x_geti dX10_number_1 fk_RX10_68 (km rfl hn) sh_336 ?_
  refine x_iconst (v := (-1)) dX10_number_4 ki_m1 ?_
  refine x_icmp_ne dX10_number_5 (tgt := 36) rfl ⟨fun c1 => ?_, fun c1 => ?_⟩
  · have h := h.1 c1
    refine x_ls (ls' := [(0, .ref 336)]) [0] rfl ?_
    exact jnt_X10_number_36 hn hG  h
  · have h := h.2 c1
    refine x_aload_n dX10_number_8 rfl ?_
    refine x_geti dX10_number_9 fk_RX10_90 (km rfl hn) sh_336 ?_
    refine x_iconst (v := 2) dX10_number_12 ki_2 ?_
    refine x_icmp_ne dX10_number_13 (tgt := 28) rfl ⟨fun c4 => ?_, fun c4 => ?_⟩
    · have h := h.1 c4
      refine x_ls (ls' := [(0, .ref 336)]) [0] rfl ?_
      exact jnt_X10_number_28 hn hG  h
    · have h := h.2 c4
      refine x_aload_n dX10_number_16 rfl ?_
      refine x_geti dX10_number_17 fk_RX10_77 (km rfl hn) sh_336 ?_
      refine x_iload_n dX10_number_20 rfl ?_
      refine x_iload_n dX10_number_21 rfl ?_
      refine x_cSi00 [.int (I 336 11), .int v1, .int v2] (mt_X10_isIn hn hG h) dX10_number_22 lk_RX10_51 rfl rfl (Nat.le_of_ble_eq_true rfl) (Rf_of rfl) (fun x6 h => ?_)
      refine x_if_ne dX10_number_25 (tgt := 36) rfl ⟨fun c7 => ?_, fun c7 => ?_⟩
      · have h := h.1 c7
        refine x_ls (ls' := [(0, .ref 336)]) [0] rfl ?_
        exact jnt_X10_number_36 hn hG  h
      · have h := h.2 c7
        refine x_ls (ls' := [(0, .ref 336)]) [0] rfl ?_
        exact jnt_X10_number_28 hn hG  h
abbrev rm_X10_readBase : Room := { frames := 4, cells := 0, slots := 0, locals := 87 }
def jn_X10_readBase_18 (I : MI) (Q : MI → Prop) : Prop :=
    (wp_X10_nextToken I (fun I3 => ((wp_X10_number I3 1 9 (fun x4 I5 => (((¬ (I5 336 12) = (-1) → Q I5) ∧ ((I5 336 12) = (-1) → (vp_in 1 2212 ∧ (vp_in (29 + (I5 337 (ix 1))) 2212 ∧ (∀ I9, I9 = u2 I5 337 (ix (29 + (I5 337 (ix 1)))) x4 → (vp_in 1 2212 ∧ (vp_in 1 2212 ∧ (∀ I12, I12 = u2 I9 337 (ix 1) ((I9 337 (ix 1)) + 1) → Q I12))))))))))))))
set_option maxRecDepth 20000 in
theorem jnt_X10_readBase_18 {E : Ev} {l : Launch} {n : Nat} {R : MR} (hn : 349 ≤ n) (hG : GRm R) {I0 : MI} {Q : MI → Prop} {I : MI} {L : ML} (h : jn_X10_readBase_18 I Q) : X E l rm_X10_readBase yX10_readBase cX10_readBase 2 none noX (ZM E rm_X10_readBase (Qv n R (V10 I0 L Q))) 18 [(0, .ref 336)] [] n I L R 0 0 := by
  unfold jn_X10_readBase_18 at h
  refine x_aload_n dX10_readBase_18 rfl ?_
  refine x_cVv10 [] (mt_X10_nextToken hn hG h) dX10_readBase_19 lk_RX10_97 (km rfl hn) sh_336 rfl rfl (Nat.le_of_ble_eq_true rfl) (Rf_of rfl) (fun I3 h => ?_)
  refine x_aload_n dX10_readBase_22 rfl ?_
  refine x_iconst (v := 1) dX10_readBase_23 ki_1 ?_
  refine x_bipush (v := 9) dX10_readBase_24 kb_9 ?_
  refine x_cVi10 [.int 1, .int 9] (mt_X10_number hn hG h) dX10_readBase_26 lk_RX10_100 (km rfl hn) sh_336 rfl rfl (Nat.le_of_ble_eq_true rfl) (Rf_of rfl) (fun x4 I5 h => ?_)
  refine x_istore_n (ls' := [(1, .int x4), (0, .ref 336)]) dX10_readBase_29 (Nat.le_of_ble_eq_true rfl) rfl ?_
  refine x_aload_n dX10_readBase_30 rfl ?_
  refine x_geti dX10_readBase_31 fk_RX10_68 (km rfl hn) sh_336 ?_
  refine x_iconst (v := (-1)) dX10_readBase_34 ki_m1 ?_
  refine x_icmp_ne dX10_readBase_35 (tgt := 63) rfl ⟨fun c6 => ?_, fun c6 => ?_⟩
  · have h := h.1 c6
    exact x_return dX10_readBase_63 ⟨rfl, rfl, rfl, rfl, h⟩
  · have h := h.2 c6
    refine x_aload_n dX10_readBase_38 rfl ?_
    refine x_getr (j := 337) dX10_readBase_39 fk_RX10_7 (km rfl hn) sh_336 (rt_336_1 hG) ?_
    refine x_bipush (v := 29) dX10_readBase_42 kb_29 ?_
    refine x_aload_n dX10_readBase_44 rfl ?_
    refine x_getr (j := 337) dX10_readBase_45 fk_RX10_7 (km rfl hn) sh_336 (rt_336_1 hG) ?_
    refine x_iconst (v := 1) dX10_readBase_48 ki_1 ?_
    obtain ⟨b7, h⟩ := h
    refine x_iaload dX10_readBase_49 (km rfl hn) sh_337 b7 ?_
    refine x_iadd dX10_readBase_50 ?_
    refine x_iload_n dX10_readBase_51 rfl ?_
    obtain ⟨b8, h⟩ := h
    refine x_iastore dX10_readBase_52 (km rfl hn) sh_337 b8 (fun I9 eI9 => ?_)
    have h := h I9 eI9
    refine x_aload_n dX10_readBase_53 rfl ?_
    refine x_getr (j := 337) dX10_readBase_54 fk_RX10_7 (km rfl hn) sh_336 (rt_336_1 hG) ?_
    refine x_iconst (v := 1) dX10_readBase_57 ki_1 ?_
    refine x_dup2 dX10_readBase_58 rfl rfl ?_
    obtain ⟨b10, h⟩ := h
    refine x_iaload dX10_readBase_59 (km rfl hn) sh_337 b10 ?_
    refine x_iconst (v := 1) dX10_readBase_60 ki_1 ?_
    refine x_iadd dX10_readBase_61 ?_
    obtain ⟨b11, h⟩ := h
    refine x_iastore dX10_readBase_62 (km rfl hn) sh_337 b11 (fun I12 eI12 => ?_)
    have h := h I12 eI12
    exact x_return dX10_readBase_63 ⟨rfl, rfl, rfl, rfl, h⟩
def wp_X10_readBase (I : MI) (Q : MI → Prop) : Prop :=
    (vp_in 1 2212 ∧ ((¬ (I 337 (ix 1)) = 3 → (jn_X10_readBase_18 I Q)) ∧ ((I 337 (ix 1)) = 3 → (wp_X10_wrong I (I 336 10) (fun I13 => ((jn_X10_readBase_18 I13 Q)))))))
set_option maxRecDepth 20000 in
theorem mt_X10_readBase {E : Ev} {l : Launch} {n : Nat} {R : MR} (hn : 349 ≤ n) (hG : GRm R) {I : MI} {L : ML} {Q : MI → Prop} (h : wp_X10_readBase I Q) : MX E l rm_X10_readBase yX10_readBase cX10_readBase 2 none [.ref 336] n I L R (Qv n R (V10 I L Q)) := by
  refine MX_of (ls := [(0, .ref 336)]) (by decide) (Nat.le_of_ble_eq_true rfl) rfl ?_
  unfold wp_X10_readBase at h
  refine x_aload_n dX10_readBase_0 rfl ?_
  refine x_getr (j := 337) dX10_readBase_1 fk_RX10_7 (km rfl hn) sh_336 (rt_336_1 hG) ?_
  refine x_iconst (v := 1) dX10_readBase_4 ki_1 ?_
  obtain ⟨b1, h⟩ := h
  refine x_iaload dX10_readBase_5 (km rfl hn) sh_337 b1 ?_
  refine x_iconst (v := 3) dX10_readBase_6 ki_3 ?_
  refine x_icmp_ne dX10_readBase_7 (tgt := 18) rfl ⟨fun c2 => ?_, fun c2 => ?_⟩
  · have h := h.1 c2
    exact jnt_X10_readBase_18 hn hG  h
  · have h := h.2 c2
    refine x_aload_n dX10_readBase_10 rfl ?_
    refine x_aload_n dX10_readBase_11 rfl ?_
    refine x_geti dX10_readBase_12 fk_RX10_74 (km rfl hn) sh_336 ?_
    refine x_cVv10 [.int (I 336 10)] (mt_X10_wrong hn hG h) dX10_readBase_15 lk_RX10_86 (km rfl hn) sh_336 rfl rfl (Nat.le_of_ble_eq_true rfl) (Rf_of rfl) (fun I13 h => ?_)
    exact jnt_X10_readBase_18 hn hG  h
abbrev rm_X10_readCell : Room := { frames := 4, cells := 0, slots := 0, locals := 87 }
def wp_X10_readCell (I : MI) (Q : MI → Prop) : Prop :=
    (wp_X10_nextToken I (fun I1 => ((vp_in 1 2212 ∧ (wp_X10_number I1 0 ((I1 337 (ix 1)) - 1) (fun x3 I4 => ((vp_in 0 2212 ∧ (wp_X10_number I4 0 ((I4 337 (ix 0)) - 1) (fun x6 I7 => ((wp_X10_number I7 0 8 (fun x8 I9 => ((wp_X10_number I9 0 12 (fun x10 I11 => ((wp_X10_number I11 0 9 (fun x12 I13 => (((¬ (I13 336 12) = (-1) → Q I13) ∧ ((I13 336 12) = (-1) → (wp_X10_cellOf x3 x6 (fun x15 => ((vp_in (32 + x15) 2212 ∧ (∀ I17, I17 = u2 I13 337 (ix (32 + x15)) x8 → (wp_X10_cellOf x3 x6 (fun x18 => ((vp_in (41 + x18) 2212 ∧ (∀ I20, I20 = u2 I17 337 (ix (41 + x18)) x10 → (wp_X10_cellOf x3 x6 (fun x21 => ((vp_in (50 + x21) 2212 ∧ (∀ I23, I23 = u2 I20 337 (ix (50 + x21)) x12 → Q I23)))))))))))))))))))))))))))))))))))))
set_option maxRecDepth 20000 in
theorem mt_X10_readCell {E : Ev} {l : Launch} {n : Nat} {R : MR} (hn : 349 ≤ n) (hG : GRm R) {I : MI} {L : ML} {Q : MI → Prop} (h : wp_X10_readCell I Q) : MX E l rm_X10_readCell yX10_readCell cX10_readCell 6 none [.ref 336] n I L R (Qv n R (V10 I L Q)) := by
  refine MX_of (ls := [(0, .ref 336)]) (by decide) (Nat.le_of_ble_eq_true rfl) rfl ?_
  unfold wp_X10_readCell at h
  refine x_aload_n dX10_readCell_0 rfl ?_
  refine x_cVv10 [] (mt_X10_nextToken hn hG h) dX10_readCell_1 lk_RX10_97 (km rfl hn) sh_336 rfl rfl (Nat.le_of_ble_eq_true rfl) (Rf_of rfl) (fun I1 h => ?_)
  refine x_aload_n dX10_readCell_4 rfl ?_
  refine x_iconst (v := 0) dX10_readCell_5 ki_0 ?_
  refine x_aload_n dX10_readCell_6 rfl ?_
  refine x_getr (j := 337) dX10_readCell_7 fk_RX10_7 (km rfl hn) sh_336 (rt_336_1 hG) ?_
  refine x_iconst (v := 1) dX10_readCell_10 ki_1 ?_
  obtain ⟨b2, h⟩ := h
  refine x_iaload dX10_readCell_11 (km rfl hn) sh_337 b2 ?_
  refine x_iconst (v := 1) dX10_readCell_12 ki_1 ?_
  refine x_isub dX10_readCell_13 ?_
  refine x_cVi10 [.int 0, .int ((I1 337 (ix 1)) - 1)] (mt_X10_number hn hG h) dX10_readCell_14 lk_RX10_100 (km rfl hn) sh_336 rfl rfl (Nat.le_of_ble_eq_true rfl) (Rf_of rfl) (fun x3 I4 h => ?_)
  refine x_istore_n (ls' := [(1, .int x3), (0, .ref 336)]) dX10_readCell_17 (Nat.le_of_ble_eq_true rfl) rfl ?_
  refine x_aload_n dX10_readCell_18 rfl ?_
  refine x_iconst (v := 0) dX10_readCell_19 ki_0 ?_
  refine x_aload_n dX10_readCell_20 rfl ?_
  refine x_getr (j := 337) dX10_readCell_21 fk_RX10_7 (km rfl hn) sh_336 (rt_336_1 hG) ?_
  refine x_iconst (v := 0) dX10_readCell_24 ki_0 ?_
  obtain ⟨b5, h⟩ := h
  refine x_iaload dX10_readCell_25 (km rfl hn) sh_337 b5 ?_
  refine x_iconst (v := 1) dX10_readCell_26 ki_1 ?_
  refine x_isub dX10_readCell_27 ?_
  refine x_cVi10 [.int 0, .int ((I4 337 (ix 0)) - 1)] (mt_X10_number hn hG h) dX10_readCell_28 lk_RX10_100 (km rfl hn) sh_336 rfl rfl (Nat.le_of_ble_eq_true rfl) (Rf_of rfl) (fun x6 I7 h => ?_)
  refine x_istore_n (ls' := [(2, .int x6), (1, .int x3), (0, .ref 336)]) dX10_readCell_31 (Nat.le_of_ble_eq_true rfl) rfl ?_
  refine x_aload_n dX10_readCell_32 rfl ?_
  refine x_iconst (v := 0) dX10_readCell_33 ki_0 ?_
  refine x_bipush (v := 8) dX10_readCell_34 kb_8 ?_
  refine x_cVi10 [.int 0, .int 8] (mt_X10_number hn hG h) dX10_readCell_36 lk_RX10_100 (km rfl hn) sh_336 rfl rfl (Nat.le_of_ble_eq_true rfl) (Rf_of rfl) (fun x8 I9 h => ?_)
  refine x_istore_n (ls' := [(3, .int x8), (2, .int x6), (1, .int x3), (0, .ref 336)]) dX10_readCell_39 (Nat.le_of_ble_eq_true rfl) rfl ?_
  refine x_aload_n dX10_readCell_40 rfl ?_
  refine x_iconst (v := 0) dX10_readCell_41 ki_0 ?_
  refine x_bipush (v := 12) dX10_readCell_42 kb_12 ?_
  refine x_cVi10 [.int 0, .int 12] (mt_X10_number hn hG h) dX10_readCell_44 lk_RX10_100 (km rfl hn) sh_336 rfl rfl (Nat.le_of_ble_eq_true rfl) (Rf_of rfl) (fun x10 I11 h => ?_)
  refine x_istore (ls' := [(4, .int x10), (3, .int x8), (2, .int x6), (1, .int x3), (0, .ref 336)]) dX10_readCell_47 (Nat.le_of_ble_eq_true rfl) rfl ?_
  refine x_aload_n dX10_readCell_49 rfl ?_
  refine x_iconst (v := 0) dX10_readCell_50 ki_0 ?_
  refine x_bipush (v := 9) dX10_readCell_51 kb_9 ?_
  refine x_cVi10 [.int 0, .int 9] (mt_X10_number hn hG h) dX10_readCell_53 lk_RX10_100 (km rfl hn) sh_336 rfl rfl (Nat.le_of_ble_eq_true rfl) (Rf_of rfl) (fun x12 I13 h => ?_)
  refine x_istore (ls' := [(5, .int x12), (4, .int x10), (3, .int x8), (2, .int x6), (1, .int x3), (0, .ref 336)]) dX10_readCell_56 (Nat.le_of_ble_eq_true rfl) rfl ?_
  refine x_aload_n dX10_readCell_58 rfl ?_
  refine x_geti dX10_readCell_59 fk_RX10_68 (km rfl hn) sh_336 ?_
  refine x_iconst (v := (-1)) dX10_readCell_62 ki_m1 ?_
  refine x_icmp_ne dX10_readCell_63 (tgt := 110) rfl ⟨fun c14 => ?_, fun c14 => ?_⟩
  · have h := h.1 c14
    exact x_return dX10_readCell_110 ⟨rfl, rfl, rfl, rfl, h⟩
  · have h := h.2 c14
    refine x_aload_n dX10_readCell_66 rfl ?_
    refine x_getr (j := 337) dX10_readCell_67 fk_RX10_7 (km rfl hn) sh_336 (rt_336_1 hG) ?_
    refine x_bipush (v := 32) dX10_readCell_70 kb_32 ?_
    refine x_iload_n dX10_readCell_72 rfl ?_
    refine x_iload_n dX10_readCell_73 rfl ?_
    refine x_cSi00 [.int x3, .int x6] (mt_X10_cellOf hn hG h) dX10_readCell_74 lk_RX10_104 rfl rfl (Nat.le_of_ble_eq_true rfl) (Rf_of rfl) (fun x15 h => ?_)
    refine x_iadd dX10_readCell_77 ?_
    refine x_iload_n dX10_readCell_78 rfl ?_
    obtain ⟨b16, h⟩ := h
    refine x_iastore dX10_readCell_79 (km rfl hn) sh_337 b16 (fun I17 eI17 => ?_)
    have h := h I17 eI17
    refine x_aload_n dX10_readCell_80 rfl ?_
    refine x_getr (j := 337) dX10_readCell_81 fk_RX10_7 (km rfl hn) sh_336 (rt_336_1 hG) ?_
    refine x_bipush (v := 41) dX10_readCell_84 kb_41 ?_
    refine x_iload_n dX10_readCell_86 rfl ?_
    refine x_iload_n dX10_readCell_87 rfl ?_
    refine x_cSi00 [.int x3, .int x6] (mt_X10_cellOf hn hG h) dX10_readCell_88 lk_RX10_104 rfl rfl (Nat.le_of_ble_eq_true rfl) (Rf_of rfl) (fun x18 h => ?_)
    refine x_iadd dX10_readCell_91 ?_
    refine x_iload dX10_readCell_92 rfl ?_
    obtain ⟨b19, h⟩ := h
    refine x_iastore dX10_readCell_94 (km rfl hn) sh_337 b19 (fun I20 eI20 => ?_)
    have h := h I20 eI20
    refine x_aload_n dX10_readCell_95 rfl ?_
    refine x_getr (j := 337) dX10_readCell_96 fk_RX10_7 (km rfl hn) sh_336 (rt_336_1 hG) ?_
    refine x_bipush (v := 50) dX10_readCell_99 kb_50 ?_
    refine x_iload_n dX10_readCell_101 rfl ?_
    refine x_iload_n dX10_readCell_102 rfl ?_
    refine x_cSi00 [.int x3, .int x6] (mt_X10_cellOf hn hG h) dX10_readCell_103 lk_RX10_104 rfl rfl (Nat.le_of_ble_eq_true rfl) (Rf_of rfl) (fun x21 h => ?_)
    refine x_iadd dX10_readCell_106 ?_
    refine x_iload dX10_readCell_107 rfl ?_
    obtain ⟨b22, h⟩ := h
    refine x_iastore dX10_readCell_109 (km rfl hn) sh_337 b22 (fun I23 eI23 => ?_)
    have h := h I23 eI23
    exact x_return dX10_readCell_110 ⟨rfl, rfl, rfl, rfl, h⟩
abbrev rm_X10_readOne : Room := { frames := 4, cells := 0, slots := 0, locals := 87 }
def wp_X10_readOne (I : MI) (v1 : Int32) (v2 : Int32) (v3 : Int32) (Q : MI → Prop) : Prop :=
    (wp_X10_nextToken I (fun I1 => ((wp_X10_number I1 v2 v3 (fun x2 I3 => (((¬ (I3 336 12) = (-1) → (vp_in v1 2212 ∧ (vp_in v1 2212 ∧ (∀ I7, I7 = u2 I3 337 (ix v1) (I3 337 (ix v1)) → Q I7)))) ∧ ((I3 336 12) = (-1) → (vp_in v1 2212 ∧ (∀ I9, I9 = u2 I3 337 (ix v1) x2 → Q I9))))))))))
set_option maxRecDepth 20000 in
theorem mt_X10_readOne {E : Ev} {l : Launch} {n : Nat} {R : MR} (hn : 349 ≤ n) (hG : GRm R) {I : MI} {L : ML} {v1 : Int32} {v2 : Int32} {v3 : Int32} {Q : MI → Prop} (h : wp_X10_readOne I v1 v2 v3 Q) : MX E l rm_X10_readOne yX10_readOne cX10_readOne 5 none [.ref 336, .int v1, .int v2, .int v3] n I L R (Qv n R (V10 I L Q)) := by
  refine MX_of (ls := [(0, .ref 336), (1, .int v1), (2, .int v2), (3, .int v3)]) (by decide) (Nat.le_of_ble_eq_true rfl) rfl ?_
  unfold wp_X10_readOne at h
  refine x_aload_n dX10_readOne_0 rfl ?_
  refine x_cVv10 [] (mt_X10_nextToken hn hG h) dX10_readOne_1 lk_RX10_97 (km rfl hn) sh_336 rfl rfl (Nat.le_of_ble_eq_true rfl) (Rf_of rfl) (fun I1 h => ?_)
  refine x_aload_n dX10_readOne_4 rfl ?_
  refine x_iload_n dX10_readOne_5 rfl ?_
  refine x_iload_n dX10_readOne_6 rfl ?_
  refine x_cVi10 [.int v2, .int v3] (mt_X10_number hn hG h) dX10_readOne_7 lk_RX10_100 (km rfl hn) sh_336 rfl rfl (Nat.le_of_ble_eq_true rfl) (Rf_of rfl) (fun x2 I3 h => ?_)
  refine x_istore (ls' := [(4, .int x2), (0, .ref 336), (1, .int v1), (2, .int v2), (3, .int v3)]) dX10_readOne_10 (Nat.le_of_ble_eq_true rfl) rfl ?_
  refine x_aload_n dX10_readOne_12 rfl ?_
  refine x_getr (j := 337) dX10_readOne_13 fk_RX10_7 (km rfl hn) sh_336 (rt_336_1 hG) ?_
  refine x_iload_n dX10_readOne_16 rfl ?_
  refine x_aload_n dX10_readOne_17 rfl ?_
  refine x_geti dX10_readOne_18 fk_RX10_68 (km rfl hn) sh_336 ?_
  refine x_iconst (v := (-1)) dX10_readOne_21 ki_m1 ?_
  refine x_icmp_ne dX10_readOne_22 (tgt := 30) rfl ⟨fun c4 => ?_, fun c4 => ?_⟩
  · have h := h.1 c4
    refine x_aload_n dX10_readOne_30 rfl ?_
    refine x_getr (j := 337) dX10_readOne_31 fk_RX10_7 (km rfl hn) sh_336 (rt_336_1 hG) ?_
    refine x_iload_n dX10_readOne_34 rfl ?_
    obtain ⟨b5, h⟩ := h
    refine x_iaload dX10_readOne_35 (km rfl hn) sh_337 b5 ?_
    obtain ⟨b6, h⟩ := h
    refine x_iastore dX10_readOne_36 (km rfl hn) sh_337 b6 (fun I7 eI7 => ?_)
    have h := h I7 eI7
    exact x_return dX10_readOne_37 ⟨rfl, rfl, rfl, rfl, h⟩
  · have h := h.2 c4
    refine x_iload dX10_readOne_25 rfl ?_
    refine x_goto dX10_readOne_27 (tgt := 36) rfl ?_
    obtain ⟨b8, h⟩ := h
    refine x_iastore dX10_readOne_36 (km rfl hn) sh_337 b8 (fun I9 eI9 => ?_)
    have h := h I9 eI9
    exact x_return dX10_readOne_37 ⟨rfl, rfl, rfl, rfl, h⟩
abbrev rm_X10_readPart : Room := { frames := 4, cells := 0, slots := 0, locals := 87 }
def jn_X10_readPart_18 (I : MI) (Q : MI → Prop) : Prop :=
    (wp_X10_nextToken I (fun I3 => ((wp_X10_number I3 1 30 (fun x4 I5 => ((wp_X10_number I5 0 9 (fun x6 I7 => ((wp_X10_number I7 1 9 (fun x8 I9 => (((¬ (I9 336 12) = (-1) → Q I9) ∧ ((I9 336 12) = (-1) → (vp_in 0 2212 ∧ (vp_in (20 + (I9 337 (ix 0))) 2212 ∧ (∀ I13, I13 = u2 I9 337 (ix (20 + (I9 337 (ix 0)))) x4 → (vp_in 0 2212 ∧ (vp_in (23 + (I13 337 (ix 0))) 2212 ∧ (∀ I16, I16 = u2 I13 337 (ix (23 + (I13 337 (ix 0)))) x6 → (vp_in 0 2212 ∧ (vp_in (26 + (I16 337 (ix 0))) 2212 ∧ (∀ I19, I19 = u2 I16 337 (ix (26 + (I16 337 (ix 0)))) x8 → (vp_in 0 2212 ∧ (vp_in 0 2212 ∧ (∀ I22, I22 = u2 I19 337 (ix 0) ((I19 337 (ix 0)) + 1) → Q I22))))))))))))))))))))))))))
set_option maxRecDepth 20000 in
theorem jnt_X10_readPart_18 {E : Ev} {l : Launch} {n : Nat} {R : MR} (hn : 349 ≤ n) (hG : GRm R) {I0 : MI} {Q : MI → Prop} {I : MI} {L : ML} (h : jn_X10_readPart_18 I Q) : X E l rm_X10_readPart yX10_readPart cX10_readPart 4 none noX (ZM E rm_X10_readPart (Qv n R (V10 I0 L Q))) 18 [(0, .ref 336)] [] n I L R 0 0 := by
  unfold jn_X10_readPart_18 at h
  refine x_aload_n dX10_readPart_18 rfl ?_
  refine x_cVv10 [] (mt_X10_nextToken hn hG h) dX10_readPart_19 lk_RX10_97 (km rfl hn) sh_336 rfl rfl (Nat.le_of_ble_eq_true rfl) (Rf_of rfl) (fun I3 h => ?_)
  refine x_aload_n dX10_readPart_22 rfl ?_
  refine x_iconst (v := 1) dX10_readPart_23 ki_1 ?_
  refine x_bipush (v := 30) dX10_readPart_24 kb_30 ?_
  refine x_cVi10 [.int 1, .int 30] (mt_X10_number hn hG h) dX10_readPart_26 lk_RX10_100 (km rfl hn) sh_336 rfl rfl (Nat.le_of_ble_eq_true rfl) (Rf_of rfl) (fun x4 I5 h => ?_)
  refine x_istore_n (ls' := [(1, .int x4), (0, .ref 336)]) dX10_readPart_29 (Nat.le_of_ble_eq_true rfl) rfl ?_
  refine x_aload_n dX10_readPart_30 rfl ?_
  refine x_iconst (v := 0) dX10_readPart_31 ki_0 ?_
  refine x_bipush (v := 9) dX10_readPart_32 kb_9 ?_
  refine x_cVi10 [.int 0, .int 9] (mt_X10_number hn hG h) dX10_readPart_34 lk_RX10_100 (km rfl hn) sh_336 rfl rfl (Nat.le_of_ble_eq_true rfl) (Rf_of rfl) (fun x6 I7 h => ?_)
  refine x_istore_n (ls' := [(2, .int x6), (1, .int x4), (0, .ref 336)]) dX10_readPart_37 (Nat.le_of_ble_eq_true rfl) rfl ?_
  refine x_aload_n dX10_readPart_38 rfl ?_
  refine x_iconst (v := 1) dX10_readPart_39 ki_1 ?_
  refine x_bipush (v := 9) dX10_readPart_40 kb_9 ?_
  refine x_cVi10 [.int 1, .int 9] (mt_X10_number hn hG h) dX10_readPart_42 lk_RX10_100 (km rfl hn) sh_336 rfl rfl (Nat.le_of_ble_eq_true rfl) (Rf_of rfl) (fun x8 I9 h => ?_)
  refine x_istore_n (ls' := [(3, .int x8), (2, .int x6), (1, .int x4), (0, .ref 336)]) dX10_readPart_45 (Nat.le_of_ble_eq_true rfl) rfl ?_
  refine x_aload_n dX10_readPart_46 rfl ?_
  refine x_geti dX10_readPart_47 fk_RX10_68 (km rfl hn) sh_336 ?_
  refine x_iconst (v := (-1)) dX10_readPart_50 ki_m1 ?_
  refine x_icmp_ne dX10_readPart_51 (tgt := 109) rfl ⟨fun c10 => ?_, fun c10 => ?_⟩
  · have h := h.1 c10
    exact x_return dX10_readPart_109 ⟨rfl, rfl, rfl, rfl, h⟩
  · have h := h.2 c10
    refine x_aload_n dX10_readPart_54 rfl ?_
    refine x_getr (j := 337) dX10_readPart_55 fk_RX10_7 (km rfl hn) sh_336 (rt_336_1 hG) ?_
    refine x_bipush (v := 20) dX10_readPart_58 kb_20 ?_
    refine x_aload_n dX10_readPart_60 rfl ?_
    refine x_getr (j := 337) dX10_readPart_61 fk_RX10_7 (km rfl hn) sh_336 (rt_336_1 hG) ?_
    refine x_iconst (v := 0) dX10_readPart_64 ki_0 ?_
    obtain ⟨b11, h⟩ := h
    refine x_iaload dX10_readPart_65 (km rfl hn) sh_337 b11 ?_
    refine x_iadd dX10_readPart_66 ?_
    refine x_iload_n dX10_readPart_67 rfl ?_
    obtain ⟨b12, h⟩ := h
    refine x_iastore dX10_readPart_68 (km rfl hn) sh_337 b12 (fun I13 eI13 => ?_)
    have h := h I13 eI13
    refine x_aload_n dX10_readPart_69 rfl ?_
    refine x_getr (j := 337) dX10_readPart_70 fk_RX10_7 (km rfl hn) sh_336 (rt_336_1 hG) ?_
    refine x_bipush (v := 23) dX10_readPart_73 kb_23 ?_
    refine x_aload_n dX10_readPart_75 rfl ?_
    refine x_getr (j := 337) dX10_readPart_76 fk_RX10_7 (km rfl hn) sh_336 (rt_336_1 hG) ?_
    refine x_iconst (v := 0) dX10_readPart_79 ki_0 ?_
    obtain ⟨b14, h⟩ := h
    refine x_iaload dX10_readPart_80 (km rfl hn) sh_337 b14 ?_
    refine x_iadd dX10_readPart_81 ?_
    refine x_iload_n dX10_readPart_82 rfl ?_
    obtain ⟨b15, h⟩ := h
    refine x_iastore dX10_readPart_83 (km rfl hn) sh_337 b15 (fun I16 eI16 => ?_)
    have h := h I16 eI16
    refine x_aload_n dX10_readPart_84 rfl ?_
    refine x_getr (j := 337) dX10_readPart_85 fk_RX10_7 (km rfl hn) sh_336 (rt_336_1 hG) ?_
    refine x_bipush (v := 26) dX10_readPart_88 kb_26 ?_
    refine x_aload_n dX10_readPart_90 rfl ?_
    refine x_getr (j := 337) dX10_readPart_91 fk_RX10_7 (km rfl hn) sh_336 (rt_336_1 hG) ?_
    refine x_iconst (v := 0) dX10_readPart_94 ki_0 ?_
    obtain ⟨b17, h⟩ := h
    refine x_iaload dX10_readPart_95 (km rfl hn) sh_337 b17 ?_
    refine x_iadd dX10_readPart_96 ?_
    refine x_iload_n dX10_readPart_97 rfl ?_
    obtain ⟨b18, h⟩ := h
    refine x_iastore dX10_readPart_98 (km rfl hn) sh_337 b18 (fun I19 eI19 => ?_)
    have h := h I19 eI19
    refine x_aload_n dX10_readPart_99 rfl ?_
    refine x_getr (j := 337) dX10_readPart_100 fk_RX10_7 (km rfl hn) sh_336 (rt_336_1 hG) ?_
    refine x_iconst (v := 0) dX10_readPart_103 ki_0 ?_
    refine x_dup2 dX10_readPart_104 rfl rfl ?_
    obtain ⟨b20, h⟩ := h
    refine x_iaload dX10_readPart_105 (km rfl hn) sh_337 b20 ?_
    refine x_iconst (v := 1) dX10_readPart_106 ki_1 ?_
    refine x_iadd dX10_readPart_107 ?_
    obtain ⟨b21, h⟩ := h
    refine x_iastore dX10_readPart_108 (km rfl hn) sh_337 b21 (fun I22 eI22 => ?_)
    have h := h I22 eI22
    exact x_return dX10_readPart_109 ⟨rfl, rfl, rfl, rfl, h⟩
def wp_X10_readPart (I : MI) (Q : MI → Prop) : Prop :=
    (vp_in 0 2212 ∧ ((¬ (I 337 (ix 0)) = 3 → (jn_X10_readPart_18 I Q)) ∧ ((I 337 (ix 0)) = 3 → (wp_X10_wrong I (I 336 10) (fun I23 => ((jn_X10_readPart_18 I23 Q)))))))
set_option maxRecDepth 20000 in
theorem mt_X10_readPart {E : Ev} {l : Launch} {n : Nat} {R : MR} (hn : 349 ≤ n) (hG : GRm R) {I : MI} {L : ML} {Q : MI → Prop} (h : wp_X10_readPart I Q) : MX E l rm_X10_readPart yX10_readPart cX10_readPart 4 none [.ref 336] n I L R (Qv n R (V10 I L Q)) := by
  refine MX_of (ls := [(0, .ref 336)]) (by decide) (Nat.le_of_ble_eq_true rfl) rfl ?_
  unfold wp_X10_readPart at h
  refine x_aload_n dX10_readPart_0 rfl ?_
  refine x_getr (j := 337) dX10_readPart_1 fk_RX10_7 (km rfl hn) sh_336 (rt_336_1 hG) ?_
  refine x_iconst (v := 0) dX10_readPart_4 ki_0 ?_
  obtain ⟨b1, h⟩ := h
  refine x_iaload dX10_readPart_5 (km rfl hn) sh_337 b1 ?_
  refine x_iconst (v := 3) dX10_readPart_6 ki_3 ?_
  refine x_icmp_ne dX10_readPart_7 (tgt := 18) rfl ⟨fun c2 => ?_, fun c2 => ?_⟩
  · have h := h.1 c2
    exact jnt_X10_readPart_18 hn hG  h
  · have h := h.2 c2
    refine x_aload_n dX10_readPart_10 rfl ?_
    refine x_aload_n dX10_readPart_11 rfl ?_
    refine x_geti dX10_readPart_12 fk_RX10_74 (km rfl hn) sh_336 ?_
    refine x_cVv10 [.int (I 336 10)] (mt_X10_wrong hn hG h) dX10_readPart_15 lk_RX10_86 (km rfl hn) sh_336 rfl rfl (Nat.le_of_ble_eq_true rfl) (Rf_of rfl) (fun I23 h => ?_)
    exact jnt_X10_readPart_18 hn hG  h
abbrev rm_X10_readWorks : Room := { frames := 4, cells := 0, slots := 0, locals := 87 }
def wp_X10_readWorks (I : MI) (Q : MI → Prop) : Prop :=
    (wp_X10_nextToken I (fun I1 => ((vp_in 0 2212 ∧ (wp_X10_number I1 0 ((I1 337 (ix 0)) - 1) (fun x3 I4 => ((wp_X10_number I4 0 9 (fun x5 I6 => (((¬ (I6 336 12) = (-1) → Q I6) ∧ ((I6 336 12) = (-1) → (vp_in (59 + x3) 2212 ∧ (∀ I9, I9 = u2 I6 337 (ix (59 + x3)) x5 → Q I9))))))))))))))
set_option maxRecDepth 20000 in
theorem mt_X10_readWorks {E : Ev} {l : Launch} {n : Nat} {R : MR} (hn : 349 ≤ n) (hG : GRm R) {I : MI} {L : ML} {Q : MI → Prop} (h : wp_X10_readWorks I Q) : MX E l rm_X10_readWorks yX10_readWorks cX10_readWorks 3 none [.ref 336] n I L R (Qv n R (V10 I L Q)) := by
  refine MX_of (ls := [(0, .ref 336)]) (by decide) (Nat.le_of_ble_eq_true rfl) rfl ?_
  unfold wp_X10_readWorks at h
  refine x_aload_n dX10_readWorks_0 rfl ?_
  refine x_cVv10 [] (mt_X10_nextToken hn hG h) dX10_readWorks_1 lk_RX10_97 (km rfl hn) sh_336 rfl rfl (Nat.le_of_ble_eq_true rfl) (Rf_of rfl) (fun I1 h => ?_)
  refine x_aload_n dX10_readWorks_4 rfl ?_
  refine x_iconst (v := 0) dX10_readWorks_5 ki_0 ?_
  refine x_aload_n dX10_readWorks_6 rfl ?_
  refine x_getr (j := 337) dX10_readWorks_7 fk_RX10_7 (km rfl hn) sh_336 (rt_336_1 hG) ?_
  refine x_iconst (v := 0) dX10_readWorks_10 ki_0 ?_
  obtain ⟨b2, h⟩ := h
  refine x_iaload dX10_readWorks_11 (km rfl hn) sh_337 b2 ?_
  refine x_iconst (v := 1) dX10_readWorks_12 ki_1 ?_
  refine x_isub dX10_readWorks_13 ?_
  refine x_cVi10 [.int 0, .int ((I1 337 (ix 0)) - 1)] (mt_X10_number hn hG h) dX10_readWorks_14 lk_RX10_100 (km rfl hn) sh_336 rfl rfl (Nat.le_of_ble_eq_true rfl) (Rf_of rfl) (fun x3 I4 h => ?_)
  refine x_istore_n (ls' := [(1, .int x3), (0, .ref 336)]) dX10_readWorks_17 (Nat.le_of_ble_eq_true rfl) rfl ?_
  refine x_aload_n dX10_readWorks_18 rfl ?_
  refine x_iconst (v := 0) dX10_readWorks_19 ki_0 ?_
  refine x_bipush (v := 9) dX10_readWorks_20 kb_9 ?_
  refine x_cVi10 [.int 0, .int 9] (mt_X10_number hn hG h) dX10_readWorks_22 lk_RX10_100 (km rfl hn) sh_336 rfl rfl (Nat.le_of_ble_eq_true rfl) (Rf_of rfl) (fun x5 I6 h => ?_)
  refine x_istore_n (ls' := [(2, .int x5), (1, .int x3), (0, .ref 336)]) dX10_readWorks_25 (Nat.le_of_ble_eq_true rfl) rfl ?_
  refine x_aload_n dX10_readWorks_26 rfl ?_
  refine x_geti dX10_readWorks_27 fk_RX10_68 (km rfl hn) sh_336 ?_
  refine x_iconst (v := (-1)) dX10_readWorks_30 ki_m1 ?_
  refine x_icmp_ne dX10_readWorks_31 (tgt := 44) rfl ⟨fun c7 => ?_, fun c7 => ?_⟩
  · have h := h.1 c7
    exact x_return dX10_readWorks_44 ⟨rfl, rfl, rfl, rfl, h⟩
  · have h := h.2 c7
    refine x_aload_n dX10_readWorks_34 rfl ?_
    refine x_getr (j := 337) dX10_readWorks_35 fk_RX10_7 (km rfl hn) sh_336 (rt_336_1 hG) ?_
    refine x_bipush (v := 59) dX10_readWorks_38 kb_59 ?_
    refine x_iload_n dX10_readWorks_40 rfl ?_
    refine x_iadd dX10_readWorks_41 ?_
    refine x_iload_n dX10_readWorks_42 rfl ?_
    obtain ⟨b8, h⟩ := h
    refine x_iastore dX10_readWorks_43 (km rfl hn) sh_337 b8 (fun I9 eI9 => ?_)
    have h := h I9 eI9
    exact x_return dX10_readWorks_44 ⟨rfl, rfl, rfl, rfl, h⟩
abbrev rm_X10_readLine : Room := { frames := 5, cells := 0, slots := 0, locals := 112 }
def jn_X10_readLine_169 (I : MI) (Q : MI → Prop) : Prop :=
    ((¬ (I 336 12) = (-1) → Q I) ∧ ((I 336 12) = (-1) → (wp_X10_nextToken I (fun I18 => (Q I18)))))
set_option maxRecDepth 20000 in
theorem jnt_X10_readLine_169 {E : Ev} {l : Launch} {n : Nat} {R : MR} (hn : 349 ≤ n) (hG : GRm R) {I0 : MI} {Q : MI → Prop} {I : MI} {L : ML} (h : jn_X10_readLine_169 I Q) : X E l rm_X10_readLine yX10_readLine cX10_readLine 1 none noX (ZM E rm_X10_readLine (Qv n R (V10 I0 L Q))) 169 [(0, .ref 336)] [] n I L R 0 0 := by
  unfold jn_X10_readLine_169 at h
  refine x_aload_n dX10_readLine_169 rfl ?_
  refine x_geti dX10_readLine_170 fk_RX10_68 (km rfl hn) sh_336 ?_
  refine x_iconst (v := (-1)) dX10_readLine_173 ki_m1 ?_
  refine x_icmp_ne dX10_readLine_174 (tgt := 181) rfl ⟨fun c17 => ?_, fun c17 => ?_⟩
  · have h := h.1 c17
    exact x_return dX10_readLine_181 ⟨rfl, rfl, rfl, rfl, h⟩
  · have h := h.2 c17
    refine x_aload_n dX10_readLine_177 rfl ?_
    refine x_cVv10 [] (mt_X10_nextToken hn hG h) dX10_readLine_178 lk_RX10_97 (km rfl hn) sh_336 rfl rfl (Nat.le_of_ble_eq_true rfl) (Rf_of rfl) (fun I18 h => ?_)
    exact x_return dX10_readLine_181 ⟨rfl, rfl, rfl, rfl, h⟩
def jn_X10_readLine_161 (I : MI) (Q : MI → Prop) : Prop :=
    (wp_X10_wrong I (I 336 10) (fun I20 => ((jn_X10_readLine_169 I20 Q))))
set_option maxRecDepth 20000 in
theorem jnt_X10_readLine_161 {E : Ev} {l : Launch} {n : Nat} {R : MR} (hn : 349 ≤ n) (hG : GRm R) {I0 : MI} {Q : MI → Prop} {I : MI} {L : ML} (h : jn_X10_readLine_161 I Q) : X E l rm_X10_readLine yX10_readLine cX10_readLine 1 none noX (ZM E rm_X10_readLine (Qv n R (V10 I0 L Q))) 161 [(0, .ref 336)] [] n I L R 0 0 := by
  unfold jn_X10_readLine_161 at h
  refine x_aload_n dX10_readLine_161 rfl ?_
  refine x_aload_n dX10_readLine_162 rfl ?_
  refine x_geti dX10_readLine_163 fk_RX10_74 (km rfl hn) sh_336 ?_
  refine x_cVv10 [.int (I 336 10)] (mt_X10_wrong hn hG h) dX10_readLine_166 lk_RX10_86 (km rfl hn) sh_336 rfl rfl (Nat.le_of_ble_eq_true rfl) (Rf_of rfl) (fun I20 h => ?_)
  exact jnt_X10_readLine_169 hn hG  h
def jn_X10_readLine_136 (I : MI) (Q : MI → Prop) : Prop :=
    ((¬ (I 336 12) = (-1) → (jn_X10_readLine_169 I Q)) ∧ ((I 336 12) = (-1) → ((¬ (I 336 9) = 3 → (jn_X10_readLine_161 I Q)) ∧ ((I 336 9) = 3 → (((I 336 11) = 59 → (jn_X10_readLine_169 I Q)) ∧ (¬ (I 336 11) = 59 → (jn_X10_readLine_161 I Q)))))))
set_option maxRecDepth 20000 in
theorem jnt_X10_readLine_136 {E : Ev} {l : Launch} {n : Nat} {R : MR} (hn : 349 ≤ n) (hG : GRm R) {I0 : MI} {Q : MI → Prop} {I : MI} {L : ML} (h : jn_X10_readLine_136 I Q) : X E l rm_X10_readLine yX10_readLine cX10_readLine 1 none noX (ZM E rm_X10_readLine (Qv n R (V10 I0 L Q))) 136 [(0, .ref 336)] [] n I L R 0 0 := by
  unfold jn_X10_readLine_136 at h
  refine x_aload_n dX10_readLine_136 rfl ?_
  refine x_geti dX10_readLine_137 fk_RX10_68 (km rfl hn) sh_336 ?_
  refine x_iconst (v := (-1)) dX10_readLine_140 ki_m1 ?_
  refine x_icmp_ne dX10_readLine_141 (tgt := 169) rfl ⟨fun c16 => ?_, fun c16 => ?_⟩
  · have h := h.1 c16
    exact jnt_X10_readLine_169 hn hG  h
  · have h := h.2 c16
    refine x_aload_n dX10_readLine_144 rfl ?_
    refine x_geti dX10_readLine_145 fk_RX10_90 (km rfl hn) sh_336 ?_
    refine x_iconst (v := 3) dX10_readLine_148 ki_3 ?_
    refine x_icmp_ne dX10_readLine_149 (tgt := 161) rfl ⟨fun c19 => ?_, fun c19 => ?_⟩
    · have h := h.1 c19
      exact jnt_X10_readLine_161 hn hG  h
    · have h := h.2 c19
      refine x_aload_n dX10_readLine_152 rfl ?_
      refine x_geti dX10_readLine_153 fk_RX10_77 (km rfl hn) sh_336 ?_
      refine x_bipush (v := 59) dX10_readLine_156 kb_59 ?_
      refine x_icmp_eq dX10_readLine_158 (tgt := 169) rfl ⟨fun c21 => ?_, fun c21 => ?_⟩
      · have h := h.1 c21
        exact jnt_X10_readLine_169 hn hG  h
      · have h := h.2 c21
        exact jnt_X10_readLine_161 hn hG  h
def wp_X10_readLine (I : MI) (Q : MI → Prop) : Prop :=
    (wp_X10_isWord I 854090722 (fun x1 => (((x1 = 0 → (wp_X10_isWord I 220309 (fun x3 => (((x3 = 0 → (wp_X10_isWord I 369932 (fun x5 => (((x5 = 0 → (wp_X10_isWord I 316163 (fun x7 => (((x7 = 0 → (wp_X10_isWord I 40613 (fun x9 => (((x9 = 0 → (wp_X10_isWord I 63030 (fun x11 => (((x11 = 0 → (wp_X10_isWord I 12531826 (fun x13 => (((x13 = 0 → (wp_X10_wrong I (I 336 10) (fun I15 => ((jn_X10_readLine_136 I15 Q))))) ∧ (¬ x13 = 0 → (wp_X10_readWorks I (fun I22 => ((jn_X10_readLine_136 I22 Q)))))))))) ∧ (¬ x11 = 0 → (wp_X10_readCell I (fun I23 => ((jn_X10_readLine_136 I23 Q)))))))))) ∧ (¬ x9 = 0 → (wp_X10_readBase I (fun I24 => ((jn_X10_readLine_136 I24 Q)))))))))) ∧ (¬ x7 = 0 → (wp_X10_readPart I (fun I25 => ((jn_X10_readLine_136 I25 Q)))))))))) ∧ (¬ x5 = 0 → (wp_X10_readOne I 4 0 1 (fun I26 => ((jn_X10_readLine_136 I26 Q)))))))))) ∧ (¬ x3 = 0 → (wp_X10_readOne I 3 0 4 (fun I27 => ((jn_X10_readLine_136 I27 Q)))))))))) ∧ (¬ x1 = 0 → (wp_X10_readOne I 2 1 3 (fun I28 => ((jn_X10_readLine_136 I28 Q)))))))))
set_option maxRecDepth 20000 in
theorem mt_X10_readLine {E : Ev} {l : Launch} {n : Nat} {R : MR} (hn : 349 ≤ n) (hG : GRm R) {I : MI} {L : ML} {Q : MI → Prop} (h : wp_X10_readLine I Q) : MX E l rm_X10_readLine yX10_readLine cX10_readLine 1 none [.ref 336] n I L R (Qv n R (V10 I L Q)) := by
  refine MX_of (ls := [(0, .ref 336)]) (by decide) (Nat.le_of_ble_eq_true rfl) rfl ?_
  unfold wp_X10_readLine at h
  refine x_aload_n dX10_readLine_0 rfl ?_
  refine x_ldc2 (v := 854090722) dX10_readLine_1 kc_RX10_107 ?_
  refine x_cVi00 [.long 854090722] (mt_X10_isWord hn hG h) dX10_readLine_4 lk_RX10_109 (km rfl hn) sh_336 rfl rfl (Nat.le_of_ble_eq_true rfl) (Rf_of rfl) (fun x1 h => ?_)
  refine x_if_eq dX10_readLine_7 (tgt := 20) rfl ⟨fun c2 => ?_, fun c2 => ?_⟩
  · have h := h.1 c2
    refine x_aload_n dX10_readLine_20 rfl ?_
    refine x_ldc2 (v := 220309) dX10_readLine_21 kc_RX10_117 ?_
    refine x_cVi00 [.long 220309] (mt_X10_isWord hn hG h) dX10_readLine_24 lk_RX10_109 (km rfl hn) sh_336 rfl rfl (Nat.le_of_ble_eq_true rfl) (Rf_of rfl) (fun x3 h => ?_)
    refine x_if_eq dX10_readLine_27 (tgt := 40) rfl ⟨fun c4 => ?_, fun c4 => ?_⟩
    · have h := h.1 c4
      refine x_aload_n dX10_readLine_40 rfl ?_
      refine x_ldc2 (v := 369932) dX10_readLine_41 kc_RX10_119 ?_
      refine x_cVi00 [.long 369932] (mt_X10_isWord hn hG h) dX10_readLine_44 lk_RX10_109 (km rfl hn) sh_336 rfl rfl (Nat.le_of_ble_eq_true rfl) (Rf_of rfl) (fun x5 h => ?_)
      refine x_if_eq dX10_readLine_47 (tgt := 60) rfl ⟨fun c6 => ?_, fun c6 => ?_⟩
      · have h := h.1 c6
        refine x_aload_n dX10_readLine_60 rfl ?_
        refine x_ldc2 (v := 316163) dX10_readLine_61 kc_RX10_121 ?_
        refine x_cVi00 [.long 316163] (mt_X10_isWord hn hG h) dX10_readLine_64 lk_RX10_109 (km rfl hn) sh_336 rfl rfl (Nat.le_of_ble_eq_true rfl) (Rf_of rfl) (fun x7 h => ?_)
        refine x_if_eq dX10_readLine_67 (tgt := 77) rfl ⟨fun c8 => ?_, fun c8 => ?_⟩
        · have h := h.1 c8
          refine x_aload_n dX10_readLine_77 rfl ?_
          refine x_ldc2 (v := 40613) dX10_readLine_78 kc_RX10_126 ?_
          refine x_cVi00 [.long 40613] (mt_X10_isWord hn hG h) dX10_readLine_81 lk_RX10_109 (km rfl hn) sh_336 rfl rfl (Nat.le_of_ble_eq_true rfl) (Rf_of rfl) (fun x9 h => ?_)
          refine x_if_eq dX10_readLine_84 (tgt := 94) rfl ⟨fun c10 => ?_, fun c10 => ?_⟩
          · have h := h.1 c10
            refine x_aload_n dX10_readLine_94 rfl ?_
            refine x_ldc2 (v := 63030) dX10_readLine_95 kc_RX10_131 ?_
            refine x_cVi00 [.long 63030] (mt_X10_isWord hn hG h) dX10_readLine_98 lk_RX10_109 (km rfl hn) sh_336 rfl rfl (Nat.le_of_ble_eq_true rfl) (Rf_of rfl) (fun x11 h => ?_)
            refine x_if_eq dX10_readLine_101 (tgt := 111) rfl ⟨fun c12 => ?_, fun c12 => ?_⟩
            · have h := h.1 c12
              refine x_aload_n dX10_readLine_111 rfl ?_
              refine x_ldc2 (v := 12531826) dX10_readLine_112 kc_RX10_136 ?_
              refine x_cVi00 [.long 12531826] (mt_X10_isWord hn hG h) dX10_readLine_115 lk_RX10_109 (km rfl hn) sh_336 rfl rfl (Nat.le_of_ble_eq_true rfl) (Rf_of rfl) (fun x13 h => ?_)
              refine x_if_eq dX10_readLine_118 (tgt := 128) rfl ⟨fun c14 => ?_, fun c14 => ?_⟩
              · have h := h.1 c14
                refine x_aload_n dX10_readLine_128 rfl ?_
                refine x_aload_n dX10_readLine_129 rfl ?_
                refine x_geti dX10_readLine_130 fk_RX10_74 (km rfl hn) sh_336 ?_
                refine x_cVv10 [.int (I 336 10)] (mt_X10_wrong hn hG h) dX10_readLine_133 lk_RX10_86 (km rfl hn) sh_336 rfl rfl (Nat.le_of_ble_eq_true rfl) (Rf_of rfl) (fun I15 h => ?_)
                exact jnt_X10_readLine_136 hn hG  h
              · have h := h.2 c14
                refine x_aload_n dX10_readLine_121 rfl ?_
                refine x_cVv10 [] (mt_X10_readWorks hn hG h) dX10_readLine_122 lk_RX10_138 (km rfl hn) sh_336 rfl rfl (Nat.le_of_ble_eq_true rfl) (Rf_of rfl) (fun I22 h => ?_)
                refine x_goto dX10_readLine_125 (tgt := 136) rfl ?_
                exact jnt_X10_readLine_136 hn hG  h
            · have h := h.2 c12
              refine x_aload_n dX10_readLine_104 rfl ?_
              refine x_cVv10 [] (mt_X10_readCell hn hG h) dX10_readLine_105 lk_RX10_133 (km rfl hn) sh_336 rfl rfl (Nat.le_of_ble_eq_true rfl) (Rf_of rfl) (fun I23 h => ?_)
              refine x_goto dX10_readLine_108 (tgt := 136) rfl ?_
              exact jnt_X10_readLine_136 hn hG  h
          · have h := h.2 c10
            refine x_aload_n dX10_readLine_87 rfl ?_
            refine x_cVv10 [] (mt_X10_readBase hn hG h) dX10_readLine_88 lk_RX10_128 (km rfl hn) sh_336 rfl rfl (Nat.le_of_ble_eq_true rfl) (Rf_of rfl) (fun I24 h => ?_)
            refine x_goto dX10_readLine_91 (tgt := 136) rfl ?_
            exact jnt_X10_readLine_136 hn hG  h
        · have h := h.2 c8
          refine x_aload_n dX10_readLine_70 rfl ?_
          refine x_cVv10 [] (mt_X10_readPart hn hG h) dX10_readLine_71 lk_RX10_123 (km rfl hn) sh_336 rfl rfl (Nat.le_of_ble_eq_true rfl) (Rf_of rfl) (fun I25 h => ?_)
          refine x_goto dX10_readLine_74 (tgt := 136) rfl ?_
          exact jnt_X10_readLine_136 hn hG  h
      · have h := h.2 c6
        refine x_aload_n dX10_readLine_50 rfl ?_
        refine x_iconst (v := 4) dX10_readLine_51 ki_4 ?_
        refine x_iconst (v := 0) dX10_readLine_52 ki_0 ?_
        refine x_iconst (v := 1) dX10_readLine_53 ki_1 ?_
        refine x_cVv10 [.int 4, .int 0, .int 1] (mt_X10_readOne hn hG h) dX10_readLine_54 lk_RX10_113 (km rfl hn) sh_336 rfl rfl (Nat.le_of_ble_eq_true rfl) (Rf_of rfl) (fun I26 h => ?_)
        refine x_goto dX10_readLine_57 (tgt := 136) rfl ?_
        exact jnt_X10_readLine_136 hn hG  h
    · have h := h.2 c4
      refine x_aload_n dX10_readLine_30 rfl ?_
      refine x_iconst (v := 3) dX10_readLine_31 ki_3 ?_
      refine x_iconst (v := 0) dX10_readLine_32 ki_0 ?_
      refine x_iconst (v := 4) dX10_readLine_33 ki_4 ?_
      refine x_cVv10 [.int 3, .int 0, .int 4] (mt_X10_readOne hn hG h) dX10_readLine_34 lk_RX10_113 (km rfl hn) sh_336 rfl rfl (Nat.le_of_ble_eq_true rfl) (Rf_of rfl) (fun I27 h => ?_)
      refine x_goto dX10_readLine_37 (tgt := 136) rfl ?_
      exact jnt_X10_readLine_136 hn hG  h
  · have h := h.2 c2
    refine x_aload_n dX10_readLine_10 rfl ?_
    refine x_iconst (v := 2) dX10_readLine_11 ki_2 ?_
    refine x_iconst (v := 1) dX10_readLine_12 ki_1 ?_
    refine x_iconst (v := 3) dX10_readLine_13 ki_3 ?_
    refine x_cVv10 [.int 2, .int 1, .int 3] (mt_X10_readOne hn hG h) dX10_readLine_14 lk_RX10_113 (km rfl hn) sh_336 rfl rfl (Nat.le_of_ble_eq_true rfl) (Rf_of rfl) (fun I28 h => ?_)
    refine x_goto dX10_readLine_17 (tgt := 136) rfl ?_
    exact jnt_X10_readLine_136 hn hG  h
abbrev rm_X10_text : Room := { frames := 6, cells := 0, slots := 0, locals := 132 }
def lp_X10_text_29 (kf49 : MI → Prop) : Nat → Int32 → MI → Prop
  | 0, _, _ => False
  | n + 1, v1, I =>
    ((2212 ≤ v1 → kf49 I) ∧ (¬ 2212 ≤ v1 → (vp_in v1 2212 ∧ (∀ I8, I8 = u2 I 337 (ix v1) 0 → (lp_X10_text_29 kf49 n (v1 + 1) I8)))))
set_option maxRecDepth 20000 in
theorem lpt_X10_text_29 {E : Ev} {l : Launch} {n : Nat} {R : MR} (hn : 349 ≤ n) (hG : GRm R) {I0 : MI} {Q : Int32 → MI → Prop} {L : ML} {kf49 : MI → Prop}
    (hK49 : ∀ (I : MI), kf49 I → X E l rm_X10_text yX10_text cX10_text 2 (some .int) noX (ZM E rm_X10_text (Qi n R (P10 I0 L Q))) 49 [(0, .ref 336)] [] n I L R 0 0) : ∀ (N : Nat) (v1 : Int32) (I : MI), lp_X10_text_29 kf49 N v1 I → X E l rm_X10_text yX10_text cX10_text 2 (some .int) noX (ZM E rm_X10_text (Qi n R (P10 I0 L Q))) 29 [(0, .ref 336), (1, .int v1)] [] n I L R 0 0 := by
  intro N
  induction N with
  | zero => intro v1 I h; exact False.elim h
  | succ N ih =>
    intro v1 I h
    unfold lp_X10_text_29 at h
    refine x_iload_n dX10_text_29 rfl ?_
    refine x_sipush (v := 2212) dX10_text_30 ks_2212 ?_
    refine x_icmp_ge dX10_text_33 (tgt := 49) rfl ⟨fun c6 => ?_, fun c6 => ?_⟩
    · have h := h.1 c6
      refine x_ls (ls' := [(0, .ref 336)]) [0] rfl ?_
      exact hK49 I h
    · have h := h.2 c6
      refine x_aload_n dX10_text_36 rfl ?_
      refine x_getr (j := 337) dX10_text_37 fk_RX10_7 (km rfl hn) sh_336 (rt_336_1 hG) ?_
      refine x_iload_n dX10_text_40 rfl ?_
      refine x_iconst (v := 0) dX10_text_41 ki_0 ?_
      obtain ⟨b7, h⟩ := h
      refine x_iastore dX10_text_42 (km rfl hn) sh_337 b7 (fun I8 eI8 => ?_)
      have h := h I8 eI8
      refine x_iinc (v := v1 + 1) (ls' := [(1, .int (v1 + 1)), (0, .ref 336)]) dX10_text_43 rfl (congrArg (_ + ·) ki_1) (Nat.le_of_ble_eq_true rfl) rfl ?_
      refine x_goto dX10_text_46 (tgt := 29) rfl ?_
      refine x_ls (ls' := [(0, .ref 336), (1, .int (v1 + 1))]) [1, 0] rfl ?_
      exact ih (v1 + 1) I8 h
def lp_X10_text_60 (kf82 : MI → Prop) : Nat → MI → Prop
  | 0, _ => False
  | n + 1, I =>
    ((¬ (I 336 12) = (-1) → kf82 I) ∧ ((I 336 12) = (-1) → (((I 336 9) = 0 → kf82 I) ∧ (¬ (I 336 9) = 0 → (wp_X10_readLine I (fun I16 => ((lp_X10_text_60 kf82 n I16))))))))
set_option maxRecDepth 20000 in
theorem lpt_X10_text_60 {E : Ev} {l : Launch} {n : Nat} {R : MR} (hn : 349 ≤ n) (hG : GRm R) {I0 : MI} {Q : Int32 → MI → Prop} {L : ML} {kf82 : MI → Prop}
    (hK82 : ∀ (I : MI), kf82 I → X E l rm_X10_text yX10_text cX10_text 2 (some .int) noX (ZM E rm_X10_text (Qi n R (P10 I0 L Q))) 82 [(0, .ref 336)] [] n I L R 0 0) : ∀ (N : Nat) (I : MI), lp_X10_text_60 kf82 N I → X E l rm_X10_text yX10_text cX10_text 2 (some .int) noX (ZM E rm_X10_text (Qi n R (P10 I0 L Q))) 60 [(0, .ref 336)] [] n I L R 0 0 := by
  intro N
  induction N with
  | zero => intro I h; exact False.elim h
  | succ N ih =>
    intro I h
    unfold lp_X10_text_60 at h
    refine x_aload_n dX10_text_60 rfl ?_
    refine x_geti dX10_text_61 fk_RX10_68 (km rfl hn) sh_336 ?_
    refine x_iconst (v := (-1)) dX10_text_64 ki_m1 ?_
    refine x_icmp_ne dX10_text_65 (tgt := 82) rfl ⟨fun c14 => ?_, fun c14 => ?_⟩
    · have h := h.1 c14
      exact hK82 I h
    · have h := h.2 c14
      refine x_aload_n dX10_text_68 rfl ?_
      refine x_geti dX10_text_69 fk_RX10_90 (km rfl hn) sh_336 ?_
      refine x_if_eq dX10_text_72 (tgt := 82) rfl ⟨fun c15 => ?_, fun c15 => ?_⟩
      · have h := h.1 c15
        exact hK82 I h
      · have h := h.2 c15
        refine x_aload_n dX10_text_75 rfl ?_
        refine x_cVv10 [] (mt_X10_readLine hn hG h) dX10_text_76 lk_RX10_144 (km rfl hn) sh_336 rfl rfl (Nat.le_of_ble_eq_true rfl) (Rf_of rfl) (fun I16 h => ?_)
        refine x_goto dX10_text_79 (tgt := 60) rfl ?_
        exact ih I16 h
def jn_X10_text_82 (I : MI) (Q : Int32 → MI → Prop) : Prop :=
    (((I 336 12) = (-1) → (wp_X10_starts I (fun I20 => ((∀ I21, I21 = u2 I20 336 4 0 → (vp_in 1 2212 ∧ (vp_in 0 2212 ∧ Q ((I21 337 (ix 1)) * (I21 337 (ix 0))) I21))))))) ∧ (¬ (I 336 12) = (-1) → (wp_X10_bringBack I (fun I24 => (Q ((-4) - (I24 336 12)) I24)))))
set_option maxRecDepth 20000 in
theorem jnt_X10_text_82 {E : Ev} {l : Launch} {n : Nat} {R : MR} (hn : 349 ≤ n) (hG : GRm R) {I0 : MI} {Q : Int32 → MI → Prop} {I : MI} {L : ML} (h : jn_X10_text_82 I Q) : X E l rm_X10_text yX10_text cX10_text 2 (some .int) noX (ZM E rm_X10_text (Qi n R (P10 I0 L Q))) 82 [(0, .ref 336)] [] n I L R 0 0 := by
  unfold jn_X10_text_82 at h
  refine x_aload_n dX10_text_82 rfl ?_
  refine x_geti dX10_text_83 fk_RX10_68 (km rfl hn) sh_336 ?_
  refine x_iconst (v := (-1)) dX10_text_86 ki_m1 ?_
  refine x_icmp_eq dX10_text_87 (tgt := 102) rfl ⟨fun c19 => ?_, fun c19 => ?_⟩
  · have h := h.1 c19
    refine x_aload_n dX10_text_102 rfl ?_
    refine x_cVv10 [] (mt_X10_starts hn hG h) dX10_text_103 lk_RX10_150 (km rfl hn) sh_336 rfl rfl (Nat.le_of_ble_eq_true rfl) (Rf_of rfl) (fun I20 h => ?_)
    refine x_aload_n dX10_text_106 rfl ?_
    refine x_iconst (v := 0) dX10_text_107 ki_0 ?_
    refine x_puti dX10_text_108 fk_RX10_153 fw_8_4 (vp_nar_int _) rfl (km rfl hn) sh_336 (fun I21 eI21 => ?_)
    have h := h I21 eI21
    refine x_aload_n dX10_text_111 rfl ?_
    refine x_getr (j := 337) dX10_text_112 fk_RX10_7 (km rfl hn) sh_336 (rt_336_1 hG) ?_
    refine x_iconst (v := 1) dX10_text_115 ki_1 ?_
    obtain ⟨b22, h⟩ := h
    refine x_iaload dX10_text_116 (km rfl hn) sh_337 b22 ?_
    refine x_aload_n dX10_text_117 rfl ?_
    refine x_getr (j := 337) dX10_text_118 fk_RX10_7 (km rfl hn) sh_336 (rt_336_1 hG) ?_
    refine x_iconst (v := 0) dX10_text_121 ki_0 ?_
    obtain ⟨b23, h⟩ := h
    refine x_iaload dX10_text_122 (km rfl hn) sh_337 b23 ?_
    refine x_imul dX10_text_123 ?_
    exact x_ireturn dX10_text_124 ⟨_, rfl, rfl, rfl, rfl, h⟩
  · have h := h.2 c19
    refine x_aload_n dX10_text_90 rfl ?_
    refine x_cVv10 [] (mt_X10_bringBack hn hG h) dX10_text_91 lk_RX10_147 (km rfl hn) sh_336 rfl rfl (Nat.le_of_ble_eq_true rfl) (Rf_of rfl) (fun I24 h => ?_)
    refine x_bipush (v := (-4)) dX10_text_94 kb_m4 ?_
    refine x_aload_n dX10_text_96 rfl ?_
    refine x_geti dX10_text_97 fk_RX10_68 (km rfl hn) sh_336 ?_
    refine x_isub dX10_text_100 ?_
    exact x_ireturn dX10_text_101 ⟨_, rfl, rfl, rfl, rfl, h⟩
def wp_X10_text (I : MI) (Q : Int32 → MI → Prop) : Prop :=
    (∀ I1, I1 = u2 I 336 7 (I 336 6) → (∀ I2, I2 = u2 I1 336 6 0 → (∀ I3, I3 = u2 I2 336 8 0 → (∀ I4, I4 = u2 I3 336 12 (-1) → (wp_X10_putAside I4 (fun I5 => ((∃ N9, lp_X10_text_29 (fun I10 => (vp_in 2 2212 ∧ (∀ I12, I12 = u2 I10 337 (ix 2) 1 → (wp_X10_nextToken I12 (fun I13 => ((∃ N17, lp_X10_text_60 (fun I18 => (jn_X10_text_82 I18 Q)) N17 I13))))))) N9 0 I5))))))))
set_option maxRecDepth 20000 in
theorem mt_X10_text {E : Ev} {l : Launch} {n : Nat} {R : MR} (hn : 349 ≤ n) (hG : GRm R) {I : MI} {L : ML} {Q : Int32 → MI → Prop} (h : wp_X10_text I Q) : MX E l rm_X10_text yX10_text cX10_text 2 (some .int) [.ref 336] n I L R (Qi n R (P10 I L Q)) := by
  refine MX_of (ls := [(0, .ref 336)]) (by decide) (Nat.le_of_ble_eq_true rfl) rfl ?_
  unfold wp_X10_text at h
  refine x_aload_n dX10_text_0 rfl ?_
  refine x_aload_n dX10_text_1 rfl ?_
  refine x_geti dX10_text_2 fk_RX10_62 (km rfl hn) sh_336 ?_
  refine x_puti dX10_text_5 fk_RX10_65 fw_8_7 (vp_nar_int _) rfl (km rfl hn) sh_336 (fun I1 eI1 => ?_)
  have h := h I1 eI1
  refine x_aload_n dX10_text_8 rfl ?_
  refine x_iconst (v := 0) dX10_text_9 ki_0 ?_
  refine x_puti dX10_text_10 fk_RX10_62 fw_8_6 (vp_nar_int _) rfl (km rfl hn) sh_336 (fun I2 eI2 => ?_)
  have h := h I2 eI2
  refine x_aload_n dX10_text_13 rfl ?_
  refine x_iconst (v := 0) dX10_text_14 ki_0 ?_
  refine x_puti dX10_text_15 fk_RX10_71 fw_8_8 (vp_nar_int _) rfl (km rfl hn) sh_336 (fun I3 eI3 => ?_)
  have h := h I3 eI3
  refine x_aload_n dX10_text_18 rfl ?_
  refine x_iconst (v := (-1)) dX10_text_19 ki_m1 ?_
  refine x_puti dX10_text_20 fk_RX10_68 fw_8_12 (vp_nar_int _) rfl (km rfl hn) sh_336 (fun I4 eI4 => ?_)
  have h := h I4 eI4
  refine x_aload_n dX10_text_23 rfl ?_
  refine x_cVv10 [] (mt_X10_putAside hn hG h) dX10_text_24 lk_RX10_141 (km rfl hn) sh_336 rfl rfl (Nat.le_of_ble_eq_true rfl) (Rf_of rfl) (fun I5 h => ?_)
  refine x_iconst (v := 0) dX10_text_27 ki_0 ?_
  refine x_istore_n (ls' := [(1, .int 0), (0, .ref 336)]) dX10_text_28 (Nat.le_of_ble_eq_true rfl) rfl ?_
  refine x_ls (ls' := [(0, .ref 336), (1, .int 0)]) [1, 0] rfl ?_
  obtain ⟨N9, h⟩ := h
  refine lpt_X10_text_29 hn hG (fun I10 h => ?_) N9 0 I5 h
  refine x_aload_n dX10_text_49 rfl ?_
  refine x_getr (j := 337) dX10_text_50 fk_RX10_7 (km rfl hn) sh_336 (rt_336_1 hG) ?_
  refine x_iconst (v := 2) dX10_text_53 ki_2 ?_
  refine x_iconst (v := 1) dX10_text_54 ki_1 ?_
  obtain ⟨b11, h⟩ := h
  refine x_iastore dX10_text_55 (km rfl hn) sh_337 b11 (fun I12 eI12 => ?_)
  have h := h I12 eI12
  refine x_aload_n dX10_text_56 rfl ?_
  refine x_cVv10 [] (mt_X10_nextToken hn hG h) dX10_text_57 lk_RX10_97 (km rfl hn) sh_336 rfl rfl (Nat.le_of_ble_eq_true rfl) (Rf_of rfl) (fun I13 h => ?_)
  obtain ⟨N17, h⟩ := h
  refine lpt_X10_text_60 hn hG (fun I18 h => ?_) N17 I13 h
  exact jnt_X10_text_82 hn hG  h
