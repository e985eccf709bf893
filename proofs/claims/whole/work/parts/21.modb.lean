abbrev rm_X10_begins : Room := { frames := 0, cells := 0, slots := 0, locals := 0 }
def wp_X10_begins (I : MI) (v1 : Int32) (v2 : Int32) (v3 : Int32) (v4 : Int32) (Q : Int32 → MI → Prop) : Prop :=
    (vp_in 16 2212 ∧ (vp_in (1012 + (5 * (I 337 (ix 16)))) 2212 ∧ (∀ I3, I3 = u2 I 337 (ix (1012 + (5 * (I 337 (ix 16))))) v1 → (vp_in 13 2212 ∧ (vp_in ((1012 + (5 * (I 337 (ix 16)))) + 1) 2212 ∧ (∀ I6, I6 = u2 I3 337 (ix ((1012 + (5 * (I 337 (ix 16)))) + 1)) (I3 337 (ix 13)) → (vp_in ((1012 + (5 * (I 337 (ix 16)))) + 2) 2212 ∧ (∀ I8, I8 = u2 I6 337 (ix ((1012 + (5 * (I 337 (ix 16)))) + 2)) v2 → (vp_in ((1012 + (5 * (I 337 (ix 16)))) + 3) 2212 ∧ (∀ I10, I10 = u2 I8 337 (ix ((1012 + (5 * (I 337 (ix 16)))) + 3)) v3 → (vp_in 5 2212 ∧ (vp_in ((1012 + (5 * (I 337 (ix 16)))) + 4) 2212 ∧ (∀ I13, I13 = u2 I10 337 (ix ((1012 + (5 * (I 337 (ix 16)))) + 4)) ((I10 337 (ix 5)) + v4) → (vp_in 16 2212 ∧ (vp_in 16 2212 ∧ (∀ I16, I16 = u2 I13 337 (ix 16) ((I13 337 (ix 16)) + 1) → (vp_in 13 2212 ∧ (vp_in 13 2212 ∧ (∀ I19, I19 = u2 I16 337 (ix 13) ((I16 337 (ix 13)) + 1) → (vp_in 13 2212 ∧ Q ((I19 337 (ix 13)) - 1) I19))))))))))))))))))))
set_option maxRecDepth 20000 in
theorem mt_X10_begins {E : Ev} {l : Launch} {n : Nat} {R : MR} (hn : 349 ≤ n) (hG : GRm R) {I : MI} {L : ML} {v1 : Int32} {v2 : Int32} {v3 : Int32} {v4 : Int32} {Q : Int32 → MI → Prop} (h : wp_X10_begins I v1 v2 v3 v4 Q) : MX E l rm_X10_begins yX10_begins cX10_begins 6 (some .int) [.ref 336, .int v1, .int v2, .int v3, .int v4] n I L R (Qi n R (P10 I L Q)) := by
  refine MX_of (ls := [(0, .ref 336), (1, .int v1), (2, .int v2), (3, .int v3), (4, .int v4)]) (by decide) (Nat.le_of_ble_eq_true rfl) rfl ?_
  unfold wp_X10_begins at h
  refine x_sipush (v := 1012) dX10_begins_0 ks_1012 ?_
  refine x_iconst (v := 5) dX10_begins_3 ki_5 ?_
  refine x_aload_n dX10_begins_4 rfl ?_
  refine x_getr (j := 337) dX10_begins_5 fk_RX10_7 (km rfl hn) sh_336 (rt_336_1 hG) ?_
  refine x_bipush (v := 16) dX10_begins_8 kb_16 ?_
  obtain ⟨b1, h⟩ := h
  refine x_iaload dX10_begins_10 (km rfl hn) sh_337 b1 ?_
  refine x_imul dX10_begins_11 ?_
  refine x_iadd dX10_begins_12 ?_
  refine x_istore (ls' := [(5, .int (1012 + (5 * (I 337 (ix 16))))), (0, .ref 336), (1, .int v1), (2, .int v2), (3, .int v3), (4, .int v4)]) dX10_begins_13 (Nat.le_of_ble_eq_true rfl) rfl ?_
  refine x_aload_n dX10_begins_15 rfl ?_
  refine x_getr (j := 337) dX10_begins_16 fk_RX10_7 (km rfl hn) sh_336 (rt_336_1 hG) ?_
  refine x_iload dX10_begins_19 rfl ?_
  refine x_iload_n dX10_begins_21 rfl ?_
  obtain ⟨b2, h⟩ := h
  refine x_iastore dX10_begins_22 (km rfl hn) sh_337 b2 (fun I3 eI3 => ?_)
  have h := h I3 eI3
  refine x_aload_n dX10_begins_23 rfl ?_
  refine x_getr (j := 337) dX10_begins_24 fk_RX10_7 (km rfl hn) sh_336 (rt_336_1 hG) ?_
  refine x_iload dX10_begins_27 rfl ?_
  refine x_iconst (v := 1) dX10_begins_29 ki_1 ?_
  refine x_iadd dX10_begins_30 ?_
  refine x_aload_n dX10_begins_31 rfl ?_
  refine x_getr (j := 337) dX10_begins_32 fk_RX10_7 (km rfl hn) sh_336 (rt_336_1 hG) ?_
  refine x_bipush (v := 13) dX10_begins_35 kb_13 ?_
  obtain ⟨b4, h⟩ := h
  refine x_iaload dX10_begins_37 (km rfl hn) sh_337 b4 ?_
  obtain ⟨b5, h⟩ := h
  refine x_iastore dX10_begins_38 (km rfl hn) sh_337 b5 (fun I6 eI6 => ?_)
  have h := h I6 eI6
  refine x_aload_n dX10_begins_39 rfl ?_
  refine x_getr (j := 337) dX10_begins_40 fk_RX10_7 (km rfl hn) sh_336 (rt_336_1 hG) ?_
  refine x_iload dX10_begins_43 rfl ?_
  refine x_iconst (v := 2) dX10_begins_45 ki_2 ?_
  refine x_iadd dX10_begins_46 ?_
  refine x_iload_n dX10_begins_47 rfl ?_
  obtain ⟨b7, h⟩ := h
  refine x_iastore dX10_begins_48 (km rfl hn) sh_337 b7 (fun I8 eI8 => ?_)
  have h := h I8 eI8
  refine x_aload_n dX10_begins_49 rfl ?_
  refine x_getr (j := 337) dX10_begins_50 fk_RX10_7 (km rfl hn) sh_336 (rt_336_1 hG) ?_
  refine x_iload dX10_begins_53 rfl ?_
  refine x_iconst (v := 3) dX10_begins_55 ki_3 ?_
  refine x_iadd dX10_begins_56 ?_
  refine x_iload_n dX10_begins_57 rfl ?_
  obtain ⟨b9, h⟩ := h
  refine x_iastore dX10_begins_58 (km rfl hn) sh_337 b9 (fun I10 eI10 => ?_)
  have h := h I10 eI10
  refine x_aload_n dX10_begins_59 rfl ?_
  refine x_getr (j := 337) dX10_begins_60 fk_RX10_7 (km rfl hn) sh_336 (rt_336_1 hG) ?_
  refine x_iload dX10_begins_63 rfl ?_
  refine x_iconst (v := 4) dX10_begins_65 ki_4 ?_
  refine x_iadd dX10_begins_66 ?_
  refine x_aload_n dX10_begins_67 rfl ?_
  refine x_getr (j := 337) dX10_begins_68 fk_RX10_7 (km rfl hn) sh_336 (rt_336_1 hG) ?_
  refine x_iconst (v := 5) dX10_begins_71 ki_5 ?_
  obtain ⟨b11, h⟩ := h
  refine x_iaload dX10_begins_72 (km rfl hn) sh_337 b11 ?_
  refine x_iload dX10_begins_73 rfl ?_
  refine x_iadd dX10_begins_75 ?_
  obtain ⟨b12, h⟩ := h
  refine x_iastore dX10_begins_76 (km rfl hn) sh_337 b12 (fun I13 eI13 => ?_)
  have h := h I13 eI13
  refine x_aload_n dX10_begins_77 rfl ?_
  refine x_getr (j := 337) dX10_begins_78 fk_RX10_7 (km rfl hn) sh_336 (rt_336_1 hG) ?_
  refine x_bipush (v := 16) dX10_begins_81 kb_16 ?_
  refine x_dup2 dX10_begins_83 rfl rfl ?_
  obtain ⟨b14, h⟩ := h
  refine x_iaload dX10_begins_84 (km rfl hn) sh_337 b14 ?_
  refine x_iconst (v := 1) dX10_begins_85 ki_1 ?_
  refine x_iadd dX10_begins_86 ?_
  obtain ⟨b15, h⟩ := h
  refine x_iastore dX10_begins_87 (km rfl hn) sh_337 b15 (fun I16 eI16 => ?_)
  have h := h I16 eI16
  refine x_aload_n dX10_begins_88 rfl ?_
  refine x_getr (j := 337) dX10_begins_89 fk_RX10_7 (km rfl hn) sh_336 (rt_336_1 hG) ?_
  refine x_bipush (v := 13) dX10_begins_92 kb_13 ?_
  refine x_dup2 dX10_begins_94 rfl rfl ?_
  obtain ⟨b17, h⟩ := h
  refine x_iaload dX10_begins_95 (km rfl hn) sh_337 b17 ?_
  refine x_iconst (v := 1) dX10_begins_96 ki_1 ?_
  refine x_iadd dX10_begins_97 ?_
  obtain ⟨b18, h⟩ := h
  refine x_iastore dX10_begins_98 (km rfl hn) sh_337 b18 (fun I19 eI19 => ?_)
  have h := h I19 eI19
  refine x_aload_n dX10_begins_99 rfl ?_
  refine x_getr (j := 337) dX10_begins_100 fk_RX10_7 (km rfl hn) sh_336 (rt_336_1 hG) ?_
  refine x_bipush (v := 13) dX10_begins_103 kb_13 ?_
  obtain ⟨b20, h⟩ := h
  refine x_iaload dX10_begins_105 (km rfl hn) sh_337 b20 ?_
  refine x_iconst (v := 1) dX10_begins_106 ki_1 ?_
  refine x_isub dX10_begins_107 ?_
  exact x_ireturn dX10_begins_108 ⟨_, rfl, rfl, rfl, rfl, h⟩
abbrev rm_X10_closes : Room := { frames := 0, cells := 0, slots := 0, locals := 0 }
def lp_X10_closes_7 (v1 : Int32) (v2 : Int32) (v4 : Int32) (Q : MI → Prop) : Nat → Int32 → MI → Prop
  | 0, _, _ => False
  | n + 1, v5, I =>
    (((v1 + (v2 * (v4 - 1))) ≤ v5 → Q I) ∧ (¬ (v1 + (v2 * (v4 - 1))) ≤ v5 → (vp_in (v5 + v2) 2212 ∧ (vp_in v5 2212 ∧ (∀ I4, I4 = u2 I 337 (ix v5) (I 337 (ix (v5 + v2))) → (lp_X10_closes_7 v1 v2 v4 Q n (v5 + 1) I4))))))
set_option maxRecDepth 20000 in
theorem lpt_X10_closes_7 {E : Ev} {l : Launch} {n : Nat} {R : MR} (hn : 349 ≤ n) (hG : GRm R) {I0 : MI} {Q : MI → Prop} {v1 : Int32} {v2 : Int32} {v4 : Int32} {L : ML} : ∀ (N : Nat) (v5 : Int32) (I : MI), lp_X10_closes_7 v1 v2 v4 Q N v5 I → X E l rm_X10_closes yX10_closes cX10_closes 6 none noX (ZM E rm_X10_closes (Qv n R (V10 I0 L Q))) 7 [(0, .ref 336), (1, .int v1), (2, .int v2), (4, .int v4), (5, .int v5)] [] n I L R 0 0 := by
  intro N
  induction N with
  | zero => intro v5 I h; exact False.elim h
  | succ N ih =>
    intro v5 I h
    unfold lp_X10_closes_7 at h
    refine x_iload dX10_closes_7 rfl ?_
    refine x_iload_n dX10_closes_9 rfl ?_
    refine x_iload_n dX10_closes_10 rfl ?_
    refine x_iload dX10_closes_11 rfl ?_
    refine x_iconst (v := 1) dX10_closes_13 ki_1 ?_
    refine x_isub dX10_closes_14 ?_
    refine x_imul dX10_closes_15 ?_
    refine x_iadd dX10_closes_16 ?_
    refine x_icmp_ge dX10_closes_17 (tgt := 42) rfl ⟨fun c1 => ?_, fun c1 => ?_⟩
    · have h := h.1 c1
      exact x_return dX10_closes_42 ⟨rfl, rfl, rfl, rfl, h⟩
    · have h := h.2 c1
      refine x_aload_n dX10_closes_20 rfl ?_
      refine x_getr (j := 337) dX10_closes_21 fk_RX10_7 (km rfl hn) sh_336 (rt_336_1 hG) ?_
      refine x_iload dX10_closes_24 rfl ?_
      refine x_aload_n dX10_closes_26 rfl ?_
      refine x_getr (j := 337) dX10_closes_27 fk_RX10_7 (km rfl hn) sh_336 (rt_336_1 hG) ?_
      refine x_iload dX10_closes_30 rfl ?_
      refine x_iload_n dX10_closes_32 rfl ?_
      refine x_iadd dX10_closes_33 ?_
      obtain ⟨b2, h⟩ := h
      refine x_iaload dX10_closes_34 (km rfl hn) sh_337 b2 ?_
      obtain ⟨b3, h⟩ := h
      refine x_iastore dX10_closes_35 (km rfl hn) sh_337 b3 (fun I4 eI4 => ?_)
      have h := h I4 eI4
      refine x_iinc (v := v5 + 1) (ls' := [(5, .int (v5 + 1)), (0, .ref 336), (1, .int v1), (2, .int v2), (4, .int v4)]) dX10_closes_36 rfl (congrArg (_ + ·) ki_1) (Nat.le_of_ble_eq_true rfl) rfl ?_
      refine x_goto dX10_closes_39 (tgt := 7) rfl ?_
      refine x_ls (ls' := [(0, .ref 336), (1, .int v1), (2, .int v2), (4, .int v4), (5, .int (v5 + 1))]) [1, 2, 3, 4, 0] rfl ?_
      exact ih (v5 + 1) I4 h
def wp_X10_closes (I : MI) (v1 : Int32) (v2 : Int32) (v3 : Int32) (v4 : Int32) (Q : MI → Prop) : Prop :=
    (∃ N5, lp_X10_closes_7 v1 v2 v4 Q N5 (v1 + (v2 * v3)) I)
set_option maxRecDepth 20000 in
theorem mt_X10_closes {E : Ev} {l : Launch} {n : Nat} {R : MR} (hn : 349 ≤ n) (hG : GRm R) {I : MI} {L : ML} {v1 : Int32} {v2 : Int32} {v3 : Int32} {v4 : Int32} {Q : MI → Prop} (h : wp_X10_closes I v1 v2 v3 v4 Q) : MX E l rm_X10_closes yX10_closes cX10_closes 6 none [.ref 336, .int v1, .int v2, .int v3, .int v4] n I L R (Qv n R (V10 I L Q)) := by
  refine MX_of (ls := [(0, .ref 336), (1, .int v1), (2, .int v2), (3, .int v3), (4, .int v4)]) (by decide) (Nat.le_of_ble_eq_true rfl) rfl ?_
  unfold wp_X10_closes at h
  refine x_iload_n dX10_closes_0 rfl ?_
  refine x_iload_n dX10_closes_1 rfl ?_
  refine x_iload_n dX10_closes_2 rfl ?_
  refine x_imul dX10_closes_3 ?_
  refine x_iadd dX10_closes_4 ?_
  refine x_istore (ls' := [(5, .int (v1 + (v2 * v3))), (0, .ref 336), (1, .int v1), (2, .int v2), (3, .int v3), (4, .int v4)]) dX10_closes_5 (Nat.le_of_ble_eq_true rfl) rfl ?_
  refine x_ls (ls' := [(0, .ref 336), (1, .int v1), (2, .int v2), (4, .int v4), (5, .int (v1 + (v2 * v3)))]) [1, 2, 3, 5, 0] rfl ?_
  obtain ⟨N5, h⟩ := h
  exact lpt_X10_closes_7 hn hG  N5 (v1 + (v2 * v3)) I h
abbrev rm_X10_wantsOf : Room := { frames := 0, cells := 0, slots := 0, locals := 0 }
def jn_X10_wantsOf_57 (v4 : Int32) (s0 : Int32) (s1 : Int32) (kj5 : Int32 → Int32 → Prop) : Prop :=
    kj5 (s1 + s0) (v4 + 1)
set_option maxRecDepth 20000 in
theorem jnt_X10_wantsOf_57 {E : Ev} {l : Launch} {n : Nat} {R : MR} (hn : 349 ≤ n) (hG : GRm R) {Q : Int32 → Prop} {I : MI} {L : ML} {v1 : Int32} {v2 : Int32} {v4 : Int32} {s0 : Int32} {s1 : Int32} {kj5 : Int32 → Int32 → Prop}
    (hJ5 : ∀ (v3 : Int32) (v4 : Int32), kj5 v3 v4 → X E l rm_X10_wantsOf yX10_wantsOf cX10_wantsOf 5 (some .int) noX (ZM E rm_X10_wantsOf (Qi n R (P00 I L Q))) 5 [(0, .ref 336), (1, .int v1), (2, .int v2), (3, .int v3), (4, .int v4)] [] n I L R 0 0) (h : jn_X10_wantsOf_57 v4 s0 s1 kj5) : X E l rm_X10_wantsOf yX10_wantsOf cX10_wantsOf 5 (some .int) noX (ZM E rm_X10_wantsOf (Qi n R (P00 I L Q))) 57 [(0, .ref 336), (1, .int v1), (2, .int v2), (4, .int v4)] [.int s0, .int s1] n I L R 0 0 := by
  unfold jn_X10_wantsOf_57 at h
  refine x_iadd dX10_wantsOf_57 ?_
  refine x_istore_n (ls' := [(3, .int (s1 + s0)), (0, .ref 336), (1, .int v1), (2, .int v2), (4, .int v4)]) dX10_wantsOf_58 (Nat.le_of_ble_eq_true rfl) rfl ?_
  refine x_iinc (v := v4 + 1) (ls' := [(4, .int (v4 + 1)), (3, .int (s1 + s0)), (0, .ref 336), (1, .int v1), (2, .int v2)]) dX10_wantsOf_59 rfl (congrArg (_ + ·) ki_1) (Nat.le_of_ble_eq_true rfl) rfl ?_
  refine x_goto dX10_wantsOf_62 (tgt := 5) rfl ?_
  refine x_ls (ls' := [(0, .ref 336), (1, .int v1), (2, .int v2), (3, .int (s1 + s0)), (4, .int (v4 + 1))]) [2, 3, 4, 1, 0] rfl ?_
  exact hJ5 (s1 + s0) (v4 + 1) h
def jn_X10_wantsOf_56 (v4 : Int32) (s0 : Int32) (kj5 : Int32 → Int32 → Prop) : Prop :=
    (jn_X10_wantsOf_57 v4 0 s0 (fun x5 x6 => kj5 x5 x6))
set_option maxRecDepth 20000 in
theorem jnt_X10_wantsOf_56 {E : Ev} {l : Launch} {n : Nat} {R : MR} (hn : 349 ≤ n) (hG : GRm R) {Q : Int32 → Prop} {I : MI} {L : ML} {v1 : Int32} {v2 : Int32} {v4 : Int32} {s0 : Int32} {kj5 : Int32 → Int32 → Prop}
    (hJ5 : ∀ (v3 : Int32) (v4 : Int32), kj5 v3 v4 → X E l rm_X10_wantsOf yX10_wantsOf cX10_wantsOf 5 (some .int) noX (ZM E rm_X10_wantsOf (Qi n R (P00 I L Q))) 5 [(0, .ref 336), (1, .int v1), (2, .int v2), (3, .int v3), (4, .int v4)] [] n I L R 0 0) (h : jn_X10_wantsOf_56 v4 s0 kj5) : X E l rm_X10_wantsOf yX10_wantsOf cX10_wantsOf 5 (some .int) noX (ZM E rm_X10_wantsOf (Qi n R (P00 I L Q))) 56 [(0, .ref 336), (1, .int v1), (2, .int v2), (4, .int v4)] [.int s0] n I L R 0 0 := by
  unfold jn_X10_wantsOf_56 at h
  refine x_iconst (v := 0) dX10_wantsOf_56 ki_0 ?_
  refine jnt_X10_wantsOf_57 hn hG (fun x5 x6 h => ?_) h
  exact hJ5 x5 x6 h
def lp_X10_wantsOf_5 (I : MI) (v1 : Int32) (v2 : Int32) (Q : Int32 → Prop) : Nat → Int32 → Int32 → Prop
  | 0, _, _ => False
  | n + 1, v3, v4 =>
    (vp_in 14 2212 ∧ (((I 337 (ix 14)) ≤ v4 → Q v3) ∧ (¬ (I 337 (ix 14)) ≤ v4 → (vp_in (92 + (4 * v4)) 2212 ∧ ((¬ (I 337 (ix (92 + (4 * v4)))) = v1 → (jn_X10_wantsOf_56 v4 v3 (fun x7 x8 => (lp_X10_wantsOf_5 I v1 v2 Q n x7 x8)))) ∧ ((I 337 (ix (92 + (4 * v4)))) = v1 → (vp_in ((92 + (4 * v4)) + 1) 2212 ∧ ((¬ (I 337 (ix ((92 + (4 * v4)) + 1))) = v2 → (jn_X10_wantsOf_56 v4 v3 (fun x11 x12 => (lp_X10_wantsOf_5 I v1 v2 Q n x11 x12)))) ∧ ((I 337 (ix ((92 + (4 * v4)) + 1))) = v2 → (jn_X10_wantsOf_57 v4 1 v3 (fun x13 x14 => (lp_X10_wantsOf_5 I v1 v2 Q n x13 x14))))))))))))
set_option maxRecDepth 20000 in
theorem lpt_X10_wantsOf_5 {E : Ev} {l : Launch} {n : Nat} {R : MR} (hn : 349 ≤ n) (hG : GRm R) {Q : Int32 → Prop} {v1 : Int32} {v2 : Int32} {I : MI} {L : ML} : ∀ (N : Nat) (v3 : Int32) (v4 : Int32), lp_X10_wantsOf_5 I v1 v2 Q N v3 v4 → X E l rm_X10_wantsOf yX10_wantsOf cX10_wantsOf 5 (some .int) noX (ZM E rm_X10_wantsOf (Qi n R (P00 I L Q))) 5 [(0, .ref 336), (1, .int v1), (2, .int v2), (3, .int v3), (4, .int v4)] [] n I L R 0 0 := by
  intro N
  induction N with
  | zero => intro v3 v4 h; exact False.elim h
  | succ N ih =>
    intro v3 v4 h
    unfold lp_X10_wantsOf_5 at h
    refine x_iload dX10_wantsOf_5 rfl ?_
    refine x_aload_n dX10_wantsOf_7 rfl ?_
    refine x_getr (j := 337) dX10_wantsOf_8 fk_RX10_7 (km rfl hn) sh_336 (rt_336_1 hG) ?_
    refine x_bipush (v := 14) dX10_wantsOf_11 kb_14 ?_
    obtain ⟨b1, h⟩ := h
    refine x_iaload dX10_wantsOf_13 (km rfl hn) sh_337 b1 ?_
    refine x_icmp_ge dX10_wantsOf_14 (tgt := 65) rfl ⟨fun c2 => ?_, fun c2 => ?_⟩
    · have h := h.1 c2
      refine x_iload_n dX10_wantsOf_65 rfl ?_
      exact x_ireturn dX10_wantsOf_66 ⟨_, rfl, rfl, rfl, rfl, rfl, h⟩
    · have h := h.2 c2
      refine x_iload_n dX10_wantsOf_17 rfl ?_
      refine x_aload_n dX10_wantsOf_18 rfl ?_
      refine x_getr (j := 337) dX10_wantsOf_19 fk_RX10_7 (km rfl hn) sh_336 (rt_336_1 hG) ?_
      refine x_bipush (v := 92) dX10_wantsOf_22 kb_92 ?_
      refine x_iconst (v := 4) dX10_wantsOf_24 ki_4 ?_
      refine x_iload dX10_wantsOf_25 rfl ?_
      refine x_imul dX10_wantsOf_27 ?_
      refine x_iadd dX10_wantsOf_28 ?_
      obtain ⟨b3, h⟩ := h
      refine x_iaload dX10_wantsOf_29 (km rfl hn) sh_337 b3 ?_
      refine x_iload_n dX10_wantsOf_30 rfl ?_
      refine x_icmp_ne dX10_wantsOf_31 (tgt := 56) rfl ⟨fun c4 => ?_, fun c4 => ?_⟩
      · have h := h.1 c4
        refine x_ls (ls' := [(0, .ref 336), (1, .int v1), (2, .int v2), (4, .int v4)]) [0, 1, 2, 4] rfl ?_
        refine jnt_X10_wantsOf_56 hn hG (fun x7 x8 h => ?_) h
        exact ih x7 x8 h
      · have h := h.2 c4
        refine x_aload_n dX10_wantsOf_34 rfl ?_
        refine x_getr (j := 337) dX10_wantsOf_35 fk_RX10_7 (km rfl hn) sh_336 (rt_336_1 hG) ?_
        refine x_bipush (v := 92) dX10_wantsOf_38 kb_92 ?_
        refine x_iconst (v := 4) dX10_wantsOf_40 ki_4 ?_
        refine x_iload dX10_wantsOf_41 rfl ?_
        refine x_imul dX10_wantsOf_43 ?_
        refine x_iadd dX10_wantsOf_44 ?_
        refine x_iconst (v := 1) dX10_wantsOf_45 ki_1 ?_
        refine x_iadd dX10_wantsOf_46 ?_
        obtain ⟨b9, h⟩ := h
        refine x_iaload dX10_wantsOf_47 (km rfl hn) sh_337 b9 ?_
        refine x_iload_n dX10_wantsOf_48 rfl ?_
        refine x_icmp_ne dX10_wantsOf_49 (tgt := 56) rfl ⟨fun c10 => ?_, fun c10 => ?_⟩
        · have h := h.1 c10
          refine x_ls (ls' := [(0, .ref 336), (1, .int v1), (2, .int v2), (4, .int v4)]) [0, 1, 2, 4] rfl ?_
          refine jnt_X10_wantsOf_56 hn hG (fun x11 x12 h => ?_) h
          exact ih x11 x12 h
        · have h := h.2 c10
          refine x_iconst (v := 1) dX10_wantsOf_52 ki_1 ?_
          refine x_goto dX10_wantsOf_53 (tgt := 57) rfl ?_
          refine x_ls (ls' := [(0, .ref 336), (1, .int v1), (2, .int v2), (4, .int v4)]) [0, 1, 2, 4] rfl ?_
          refine jnt_X10_wantsOf_57 hn hG (fun x13 x14 h => ?_) h
          exact ih x13 x14 h
def wp_X10_wantsOf (I : MI) (v1 : Int32) (v2 : Int32) (Q : Int32 → Prop) : Prop :=
    (∃ N15, lp_X10_wantsOf_5 I v1 v2 Q N15 0 0)
set_option maxRecDepth 20000 in
theorem mt_X10_wantsOf {E : Ev} {l : Launch} {n : Nat} {R : MR} (hn : 349 ≤ n) (hG : GRm R) {I : MI} {L : ML} {v1 : Int32} {v2 : Int32} {Q : Int32 → Prop} (h : wp_X10_wantsOf I v1 v2 Q) : MX E l rm_X10_wantsOf yX10_wantsOf cX10_wantsOf 5 (some .int) [.ref 336, .int v1, .int v2] n I L R (Qi n R (P00 I L Q)) := by
  refine MX_of (ls := [(0, .ref 336), (1, .int v1), (2, .int v2)]) (by decide) (Nat.le_of_ble_eq_true rfl) rfl ?_
  unfold wp_X10_wantsOf at h
  refine x_iconst (v := 0) dX10_wantsOf_0 ki_0 ?_
  refine x_istore_n (ls' := [(3, .int 0), (0, .ref 336), (1, .int v1), (2, .int v2)]) dX10_wantsOf_1 (Nat.le_of_ble_eq_true rfl) rfl ?_
  refine x_iconst (v := 0) dX10_wantsOf_2 ki_0 ?_
  refine x_istore (ls' := [(4, .int 0), (3, .int 0), (0, .ref 336), (1, .int v1), (2, .int v2)]) dX10_wantsOf_3 (Nat.le_of_ble_eq_true rfl) rfl ?_
  refine x_ls (ls' := [(0, .ref 336), (1, .int v1), (2, .int v2), (3, .int 0), (4, .int 0)]) [2, 3, 4, 1, 0] rfl ?_
  obtain ⟨N15, h⟩ := h
  exact lpt_X10_wantsOf_5 hn hG  N15 0 0 h
abbrev rm_X10_nextCall : Room := { frames := 1, cells := 0, slots := 0, locals := 24 }
def jn_X10_nextCall_91 (v2 : Int32) (v3 : Int32) (v4 : Int32) (kj7 : Int32 → Int32 → Int32 → Prop) : Prop :=
    kj7 v2 v3 (v4 + 1)
set_option maxRecDepth 20000 in
theorem jnt_X10_nextCall_91 {E : Ev} {l : Launch} {n : Nat} {R : MR} (hn : 349 ≤ n) (hG : GRm R) {Q : Int32 → Prop} {I : MI} {L : ML} {v1 : Int32} {v2 : Int32} {v3 : Int32} {v4 : Int32} {kj7 : Int32 → Int32 → Int32 → Prop}
    (hJ7 : ∀ (v2 : Int32) (v3 : Int32) (v4 : Int32), kj7 v2 v3 v4 → X E l rm_X10_nextCall yX10_nextCall cX10_nextCall 6 (some .int) noX (ZM E rm_X10_nextCall (Qi n R (P00 I L Q))) 7 [(0, .ref 336), (1, .int v1), (2, .int v2), (3, .int v3), (4, .int v4)] [] n I L R 0 0) (h : jn_X10_nextCall_91 v2 v3 v4 kj7) : X E l rm_X10_nextCall yX10_nextCall cX10_nextCall 6 (some .int) noX (ZM E rm_X10_nextCall (Qi n R (P00 I L Q))) 91 [(0, .ref 336), (1, .int v1), (2, .int v2), (3, .int v3), (4, .int v4)] [] n I L R 0 0 := by
  unfold jn_X10_nextCall_91 at h
  refine x_iinc (v := v4 + 1) (ls' := [(4, .int (v4 + 1)), (0, .ref 336), (1, .int v1), (2, .int v2), (3, .int v3)]) dX10_nextCall_91 rfl (congrArg (_ + ·) ki_1) (Nat.le_of_ble_eq_true rfl) rfl ?_
  refine x_goto dX10_nextCall_94 (tgt := 7) rfl ?_
  refine x_ls (ls' := [(0, .ref 336), (1, .int v1), (2, .int v2), (3, .int v3), (4, .int (v4 + 1))]) [1, 2, 3, 4, 0] rfl ?_
  exact hJ7 v2 v3 (v4 + 1) h
def jn_X10_nextCall_85 (v4 : Int32) (v5 : Int32) (kj7 : Int32 → Int32 → Int32 → Prop) : Prop :=
    (jn_X10_nextCall_91 v4 v5 v4 (fun x10 x11 x12 => kj7 x10 x11 x12))
set_option maxRecDepth 20000 in
theorem jnt_X10_nextCall_85 {E : Ev} {l : Launch} {n : Nat} {R : MR} (hn : 349 ≤ n) (hG : GRm R) {Q : Int32 → Prop} {I : MI} {L : ML} {v1 : Int32} {v4 : Int32} {v5 : Int32} {kj7 : Int32 → Int32 → Int32 → Prop}
    (hJ7 : ∀ (v2 : Int32) (v3 : Int32) (v4 : Int32), kj7 v2 v3 v4 → X E l rm_X10_nextCall yX10_nextCall cX10_nextCall 6 (some .int) noX (ZM E rm_X10_nextCall (Qi n R (P00 I L Q))) 7 [(0, .ref 336), (1, .int v1), (2, .int v2), (3, .int v3), (4, .int v4)] [] n I L R 0 0) (h : jn_X10_nextCall_85 v4 v5 kj7) : X E l rm_X10_nextCall yX10_nextCall cX10_nextCall 6 (some .int) noX (ZM E rm_X10_nextCall (Qi n R (P00 I L Q))) 85 [(0, .ref 336), (1, .int v1), (4, .int v4), (5, .int v5)] [] n I L R 0 0 := by
  unfold jn_X10_nextCall_85 at h
  refine x_iload dX10_nextCall_85 rfl ?_
  refine x_istore_n (ls' := [(2, .int v4), (0, .ref 336), (1, .int v1), (4, .int v4), (5, .int v5)]) dX10_nextCall_87 (Nat.le_of_ble_eq_true rfl) rfl ?_
  refine x_iload dX10_nextCall_88 rfl ?_
  refine x_istore_n (ls' := [(3, .int v5), (2, .int v4), (0, .ref 336), (1, .int v1), (4, .int v4), (5, .int v5)]) dX10_nextCall_90 (Nat.le_of_ble_eq_true rfl) rfl ?_
  refine x_ls (ls' := [(0, .ref 336), (1, .int v1), (2, .int v4), (3, .int v5), (4, .int v4)]) [2, 3, 1, 0, 4] rfl ?_
  refine jnt_X10_nextCall_91 hn hG (fun x10 x11 x12 h => ?_) h
  exact hJ7 x10 x11 x12 h
def jn_X10_nextCall_72 (v2 : Int32) (v3 : Int32) (v4 : Int32) (s0 : Int32) (kj7 : Int32 → Int32 → Int32 → Prop) : Prop :=
    ((v2 = (-1) → (jn_X10_nextCall_85 v4 s0 (fun x13 x14 x15 => kj7 x13 x14 x15))) ∧ (¬ v2 = (-1) → ((s0 ≤ v3 → (jn_X10_nextCall_91 v2 v3 v4 (fun x17 x18 x19 => kj7 x17 x18 x19))) ∧ (¬ s0 ≤ v3 → (jn_X10_nextCall_85 v4 s0 (fun x20 x21 x22 => kj7 x20 x21 x22))))))
set_option maxRecDepth 20000 in
theorem jnt_X10_nextCall_72 {E : Ev} {l : Launch} {n : Nat} {R : MR} (hn : 349 ≤ n) (hG : GRm R) {Q : Int32 → Prop} {I : MI} {L : ML} {v1 : Int32} {v2 : Int32} {v3 : Int32} {v4 : Int32} {s0 : Int32} {kj7 : Int32 → Int32 → Int32 → Prop}
    (hJ7 : ∀ (v2 : Int32) (v3 : Int32) (v4 : Int32), kj7 v2 v3 v4 → X E l rm_X10_nextCall yX10_nextCall cX10_nextCall 6 (some .int) noX (ZM E rm_X10_nextCall (Qi n R (P00 I L Q))) 7 [(0, .ref 336), (1, .int v1), (2, .int v2), (3, .int v3), (4, .int v4)] [] n I L R 0 0) (h : jn_X10_nextCall_72 v2 v3 v4 s0 kj7) : X E l rm_X10_nextCall yX10_nextCall cX10_nextCall 6 (some .int) noX (ZM E rm_X10_nextCall (Qi n R (P00 I L Q))) 72 [(0, .ref 336), (1, .int v1), (2, .int v2), (3, .int v3), (4, .int v4)] [.int s0] n I L R 0 0 := by
  unfold jn_X10_nextCall_72 at h
  refine x_istore (ls' := [(5, .int s0), (0, .ref 336), (1, .int v1), (2, .int v2), (3, .int v3), (4, .int v4)]) dX10_nextCall_72 (Nat.le_of_ble_eq_true rfl) rfl ?_
  refine x_iload_n dX10_nextCall_74 rfl ?_
  refine x_iconst (v := (-1)) dX10_nextCall_75 ki_m1 ?_
  refine x_icmp_eq dX10_nextCall_76 (tgt := 85) rfl ⟨fun c9 => ?_, fun c9 => ?_⟩
  · have h := h.1 c9
    refine x_ls (ls' := [(0, .ref 336), (1, .int v1), (4, .int v4), (5, .int s0)]) [1, 2, 5, 0] rfl ?_
    refine jnt_X10_nextCall_85 hn hG (fun x13 x14 x15 h => ?_) h
    exact hJ7 x13 x14 x15 h
  · have h := h.2 c9
    refine x_iload dX10_nextCall_79 rfl ?_
    refine x_iload_n dX10_nextCall_81 rfl ?_
    refine x_icmp_le dX10_nextCall_82 (tgt := 91) rfl ⟨fun c16 => ?_, fun c16 => ?_⟩
    · have h := h.1 c16
      refine x_ls (ls' := [(0, .ref 336), (1, .int v1), (2, .int v2), (3, .int v3), (4, .int v4)]) [1, 2, 3, 4, 5] rfl ?_
      refine jnt_X10_nextCall_91 hn hG (fun x17 x18 x19 h => ?_) h
      exact hJ7 x17 x18 x19 h
    · have h := h.2 c16
      refine x_ls (ls' := [(0, .ref 336), (1, .int v1), (4, .int v4), (5, .int s0)]) [1, 2, 5, 0] rfl ?_
      refine jnt_X10_nextCall_85 hn hG (fun x20 x21 x22 h => ?_) h
      exact hJ7 x20 x21 x22 h
def lp_X10_nextCall_7 (I : MI) (v1 : Int32) (Q : Int32 → Prop) : Nat → Int32 → Int32 → Int32 → Prop
  | 0, _, _, _ => False
  | n + 1, v2, v3, v4 =>
    (vp_in 15 2212 ∧ (((I 337 (ix 15)) ≤ v4 → Q v2) ∧ (¬ (I 337 (ix 15)) ≤ v4 → (vp_in ((412 + (3 * v4)) + 1) 2212 ∧ (((I 337 (ix ((412 + (3 * v4)) + 1))) = v1 → (vp_in 4 2212 ∧ ((¬ (I 337 (ix 4)) = 0 → (vp_in (412 + (3 * v4)) 2212 ∧ (wp_X10_wantsOf I (I 337 (ix (412 + (3 * v4)))) v1 (fun x8 => ((jn_X10_nextCall_72 v2 v3 v4 x8 (fun x23 x24 x25 => (lp_X10_nextCall_7 I v1 Q n x23 x24 x25)))))))) ∧ ((I 337 (ix 4)) = 0 → (jn_X10_nextCall_72 v2 v3 v4 0 (fun x26 x27 x28 => (lp_X10_nextCall_7 I v1 Q n x26 x27 x28))))))) ∧ (¬ (I 337 (ix ((412 + (3 * v4)) + 1))) = v1 → (jn_X10_nextCall_91 v2 v3 v4 (fun x29 x30 x31 => (lp_X10_nextCall_7 I v1 Q n x29 x30 x31)))))))))
set_option maxRecDepth 20000 in
theorem lpt_X10_nextCall_7 {E : Ev} {l : Launch} {n : Nat} {R : MR} (hn : 349 ≤ n) (hG : GRm R) {Q : Int32 → Prop} {v1 : Int32} {I : MI} {L : ML} : ∀ (N : Nat) (v2 : Int32) (v3 : Int32) (v4 : Int32), lp_X10_nextCall_7 I v1 Q N v2 v3 v4 → X E l rm_X10_nextCall yX10_nextCall cX10_nextCall 6 (some .int) noX (ZM E rm_X10_nextCall (Qi n R (P00 I L Q))) 7 [(0, .ref 336), (1, .int v1), (2, .int v2), (3, .int v3), (4, .int v4)] [] n I L R 0 0 := by
  intro N
  induction N with
  | zero => intro v2 v3 v4 h; exact False.elim h
  | succ N ih =>
    intro v2 v3 v4 h
    unfold lp_X10_nextCall_7 at h
    refine x_iload dX10_nextCall_7 rfl ?_
    refine x_aload_n dX10_nextCall_9 rfl ?_
    refine x_getr (j := 337) dX10_nextCall_10 fk_RX10_7 (km rfl hn) sh_336 (rt_336_1 hG) ?_
    refine x_bipush (v := 15) dX10_nextCall_13 kb_15 ?_
    obtain ⟨b1, h⟩ := h
    refine x_iaload dX10_nextCall_15 (km rfl hn) sh_337 b1 ?_
    refine x_icmp_ge dX10_nextCall_16 (tgt := 97) rfl ⟨fun c2 => ?_, fun c2 => ?_⟩
    · have h := h.1 c2
      refine x_iload_n dX10_nextCall_97 rfl ?_
      exact x_ireturn dX10_nextCall_98 ⟨_, rfl, rfl, rfl, rfl, rfl, h⟩
    · have h := h.2 c2
      refine x_aload_n dX10_nextCall_19 rfl ?_
      refine x_getr (j := 337) dX10_nextCall_20 fk_RX10_7 (km rfl hn) sh_336 (rt_336_1 hG) ?_
      refine x_sipush (v := 412) dX10_nextCall_23 ks_412 ?_
      refine x_iconst (v := 3) dX10_nextCall_26 ki_3 ?_
      refine x_iload dX10_nextCall_27 rfl ?_
      refine x_imul dX10_nextCall_29 ?_
      refine x_iadd dX10_nextCall_30 ?_
      refine x_iconst (v := 1) dX10_nextCall_31 ki_1 ?_
      refine x_iadd dX10_nextCall_32 ?_
      obtain ⟨b3, h⟩ := h
      refine x_iaload dX10_nextCall_33 (km rfl hn) sh_337 b3 ?_
      refine x_iload_n dX10_nextCall_34 rfl ?_
      refine x_icmp_eq dX10_nextCall_35 (tgt := 41) rfl ⟨fun c4 => ?_, fun c4 => ?_⟩
      · have h := h.1 c4
        refine x_aload_n dX10_nextCall_41 rfl ?_
        refine x_getr (j := 337) dX10_nextCall_42 fk_RX10_7 (km rfl hn) sh_336 (rt_336_1 hG) ?_
        refine x_iconst (v := 4) dX10_nextCall_45 ki_4 ?_
        obtain ⟨b5, h⟩ := h
        refine x_iaload dX10_nextCall_46 (km rfl hn) sh_337 b5 ?_
        refine x_if_ne dX10_nextCall_47 (tgt := 54) rfl ⟨fun c6 => ?_, fun c6 => ?_⟩
        · have h := h.1 c6
          refine x_aload_n dX10_nextCall_54 rfl ?_
          refine x_aload_n dX10_nextCall_55 rfl ?_
          refine x_getr (j := 337) dX10_nextCall_56 fk_RX10_7 (km rfl hn) sh_336 (rt_336_1 hG) ?_
          refine x_sipush (v := 412) dX10_nextCall_59 ks_412 ?_
          refine x_iconst (v := 3) dX10_nextCall_62 ki_3 ?_
          refine x_iload dX10_nextCall_63 rfl ?_
          refine x_imul dX10_nextCall_65 ?_
          refine x_iadd dX10_nextCall_66 ?_
          obtain ⟨b7, h⟩ := h
          refine x_iaload dX10_nextCall_67 (km rfl hn) sh_337 b7 ?_
          refine x_iload_n dX10_nextCall_68 rfl ?_
          refine x_cVi00 [.int (I 337 (ix (412 + (3 * v4)))), .int v1] (mt_X10_wantsOf hn hG h) dX10_nextCall_69 lk_RX10_156 (km rfl hn) sh_336 rfl rfl (Nat.le_of_ble_eq_true rfl) (Rf_of rfl) (fun x8 h => ?_)
          refine jnt_X10_nextCall_72 hn hG (fun x23 x24 x25 h => ?_) h
          exact ih x23 x24 x25 h
        · have h := h.2 c6
          refine x_iconst (v := 0) dX10_nextCall_50 ki_0 ?_
          refine x_goto dX10_nextCall_51 (tgt := 72) rfl ?_
          refine jnt_X10_nextCall_72 hn hG (fun x26 x27 x28 h => ?_) h
          exact ih x26 x27 x28 h
      · have h := h.2 c4
        refine x_goto dX10_nextCall_38 (tgt := 91) rfl ?_
        refine jnt_X10_nextCall_91 hn hG (fun x29 x30 x31 h => ?_) h
        exact ih x29 x30 x31 h
def wp_X10_nextCall (I : MI) (v1 : Int32) (Q : Int32 → Prop) : Prop :=
    (∃ N32, lp_X10_nextCall_7 I v1 Q N32 (-1) 0 0)
set_option maxRecDepth 20000 in
theorem mt_X10_nextCall {E : Ev} {l : Launch} {n : Nat} {R : MR} (hn : 349 ≤ n) (hG : GRm R) {I : MI} {L : ML} {v1 : Int32} {Q : Int32 → Prop} (h : wp_X10_nextCall I v1 Q) : MX E l rm_X10_nextCall yX10_nextCall cX10_nextCall 6 (some .int) [.ref 336, .int v1] n I L R (Qi n R (P00 I L Q)) := by
  refine MX_of (ls := [(0, .ref 336), (1, .int v1)]) (by decide) (Nat.le_of_ble_eq_true rfl) rfl ?_
  unfold wp_X10_nextCall at h
  refine x_iconst (v := (-1)) dX10_nextCall_0 ki_m1 ?_
  refine x_istore_n (ls' := [(2, .int (-1)), (0, .ref 336), (1, .int v1)]) dX10_nextCall_1 (Nat.le_of_ble_eq_true rfl) rfl ?_
  refine x_iconst (v := 0) dX10_nextCall_2 ki_0 ?_
  refine x_istore_n (ls' := [(3, .int 0), (2, .int (-1)), (0, .ref 336), (1, .int v1)]) dX10_nextCall_3 (Nat.le_of_ble_eq_true rfl) rfl ?_
  refine x_iconst (v := 0) dX10_nextCall_4 ki_0 ?_
  refine x_istore (ls' := [(4, .int 0), (3, .int 0), (2, .int (-1)), (0, .ref 336), (1, .int v1)]) dX10_nextCall_5 (Nat.le_of_ble_eq_true rfl) rfl ?_
  refine x_ls (ls' := [(0, .ref 336), (1, .int v1), (2, .int (-1)), (3, .int 0), (4, .int 0)]) [3, 4, 2, 1, 0] rfl ?_
  obtain ⟨N32, h⟩ := h
  exact lpt_X10_nextCall_7 hn hG  N32 (-1) 0 0 h
abbrev rm_X10_answers : Room := { frames := 2, cells := 0, slots := 0, locals := 49 }
def lp_X10_answers_6 (v1 : Int32) (Q : MI → Prop) : Nat → Int32 → MI → Prop
  | 0, _, _ => False
  | n + 1, v2, I =>
    (vp_in (71 + v1) 2212 ∧ (((I 337 (ix (71 + v1))) ≤ 0 → Q I) ∧ (¬ (I 337 (ix (71 + v1))) ≤ 0 → ((v2 = (-1) → Q I) ∧ (¬ v2 = (-1) → (vp_in (412 + (3 * v2)) 2212 ∧ (vp_in 15 2212 ∧ (wp_X10_closes I 412 3 v2 (I 337 (ix 15)) (fun I7 => ((vp_in 15 2212 ∧ (vp_in 15 2212 ∧ (∀ I10, I10 = u2 I7 337 (ix 15) ((I7 337 (ix 15)) - 1) → (vp_in (71 + v1) 2212 ∧ (vp_in (71 + v1) 2212 ∧ (∀ I13, I13 = u2 I10 337 (ix (71 + v1)) ((I10 337 (ix (71 + v1))) - 1) → (vp_in 12 2212 ∧ (vp_in 12 2212 ∧ (∀ I16, I16 = u2 I13 337 (ix 12) ((I13 337 (ix 12)) + 1) → (vp_in (29 + (I 337 (ix (412 + (3 * v2))))) 2212 ∧ (wp_X10_begins I16 3 v1 (I 337 (ix (412 + (3 * v2)))) (I16 337 (ix (29 + (I 337 (ix (412 + (3 * v2))))))) (fun x18 I19 => ((wp_X10_nextCall I19 v1 (fun x20 => ((lp_X10_answers_6 v1 Q n x20 I19)))))))))))))))))))))))))))
set_option maxRecDepth 20000 in
theorem lpt_X10_answers_6 {E : Ev} {l : Launch} {n : Nat} {R : MR} (hn : 349 ≤ n) (hG : GRm R) {I0 : MI} {Q : MI → Prop} {v1 : Int32} {L : ML} : ∀ (N : Nat) (v2 : Int32) (I : MI), lp_X10_answers_6 v1 Q N v2 I → X E l rm_X10_answers yX10_answers cX10_answers 5 none noX (ZM E rm_X10_answers (Qv n R (V10 I0 L Q))) 6 [(0, .ref 336), (1, .int v1), (2, .int v2)] [] n I L R 0 0 := by
  intro N
  induction N with
  | zero => intro v2 I h; exact False.elim h
  | succ N ih =>
    intro v2 I h
    unfold lp_X10_answers_6 at h
    refine x_aload_n dX10_answers_6 rfl ?_
    refine x_getr (j := 337) dX10_answers_7 fk_RX10_7 (km rfl hn) sh_336 (rt_336_1 hG) ?_
    refine x_bipush (v := 71) dX10_answers_10 kb_71 ?_
    refine x_iload_n dX10_answers_12 rfl ?_
    refine x_iadd dX10_answers_13 ?_
    obtain ⟨b2, h⟩ := h
    refine x_iaload dX10_answers_14 (km rfl hn) sh_337 b2 ?_
    refine x_if_le dX10_answers_15 (tgt := 114) rfl ⟨fun c3 => ?_, fun c3 => ?_⟩
    · have h := h.1 c3
      exact x_return dX10_answers_114 ⟨rfl, rfl, rfl, rfl, h⟩
    · have h := h.2 c3
      refine x_iload_n dX10_answers_18 rfl ?_
      refine x_iconst (v := (-1)) dX10_answers_19 ki_m1 ?_
      refine x_icmp_eq dX10_answers_20 (tgt := 114) rfl ⟨fun c4 => ?_, fun c4 => ?_⟩
      · have h := h.1 c4
        exact x_return dX10_answers_114 ⟨rfl, rfl, rfl, rfl, h⟩
      · have h := h.2 c4
        refine x_aload_n dX10_answers_23 rfl ?_
        refine x_getr (j := 337) dX10_answers_24 fk_RX10_7 (km rfl hn) sh_336 (rt_336_1 hG) ?_
        refine x_sipush (v := 412) dX10_answers_27 ks_412 ?_
        refine x_iconst (v := 3) dX10_answers_30 ki_3 ?_
        refine x_iload_n dX10_answers_31 rfl ?_
        refine x_imul dX10_answers_32 ?_
        refine x_iadd dX10_answers_33 ?_
        obtain ⟨b5, h⟩ := h
        refine x_iaload dX10_answers_34 (km rfl hn) sh_337 b5 ?_
        refine x_istore_n (ls' := [(3, .int (I 337 (ix (412 + (3 * v2))))), (0, .ref 336), (1, .int v1), (2, .int v2)]) dX10_answers_35 (Nat.le_of_ble_eq_true rfl) rfl ?_
        refine x_aload_n dX10_answers_36 rfl ?_
        refine x_sipush (v := 412) dX10_answers_37 ks_412 ?_
        refine x_iconst (v := 3) dX10_answers_40 ki_3 ?_
        refine x_iload_n dX10_answers_41 rfl ?_
        refine x_aload_n dX10_answers_42 rfl ?_
        refine x_getr (j := 337) dX10_answers_43 fk_RX10_7 (km rfl hn) sh_336 (rt_336_1 hG) ?_
        refine x_bipush (v := 15) dX10_answers_46 kb_15 ?_
        obtain ⟨b6, h⟩ := h
        refine x_iaload dX10_answers_48 (km rfl hn) sh_337 b6 ?_
        refine x_cVv10 [.int 412, .int 3, .int v2, .int (I 337 (ix 15))] (mt_X10_closes hn hG h) dX10_answers_49 lk_RX10_163 (km rfl hn) sh_336 rfl rfl (Nat.le_of_ble_eq_true rfl) (Rf_of rfl) (fun I7 h => ?_)
        refine x_aload_n dX10_answers_52 rfl ?_
        refine x_getr (j := 337) dX10_answers_53 fk_RX10_7 (km rfl hn) sh_336 (rt_336_1 hG) ?_
        refine x_bipush (v := 15) dX10_answers_56 kb_15 ?_
        refine x_dup2 dX10_answers_58 rfl rfl ?_
        obtain ⟨b8, h⟩ := h
        refine x_iaload dX10_answers_59 (km rfl hn) sh_337 b8 ?_
        refine x_iconst (v := 1) dX10_answers_60 ki_1 ?_
        refine x_isub dX10_answers_61 ?_
        obtain ⟨b9, h⟩ := h
        refine x_iastore dX10_answers_62 (km rfl hn) sh_337 b9 (fun I10 eI10 => ?_)
        have h := h I10 eI10
        refine x_aload_n dX10_answers_63 rfl ?_
        refine x_getr (j := 337) dX10_answers_64 fk_RX10_7 (km rfl hn) sh_336 (rt_336_1 hG) ?_
        refine x_bipush (v := 71) dX10_answers_67 kb_71 ?_
        refine x_iload_n dX10_answers_69 rfl ?_
        refine x_iadd dX10_answers_70 ?_
        refine x_dup2 dX10_answers_71 rfl rfl ?_
        obtain ⟨b11, h⟩ := h
        refine x_iaload dX10_answers_72 (km rfl hn) sh_337 b11 ?_
        refine x_iconst (v := 1) dX10_answers_73 ki_1 ?_
        refine x_isub dX10_answers_74 ?_
        obtain ⟨b12, h⟩ := h
        refine x_iastore dX10_answers_75 (km rfl hn) sh_337 b12 (fun I13 eI13 => ?_)
        have h := h I13 eI13
        refine x_aload_n dX10_answers_76 rfl ?_
        refine x_getr (j := 337) dX10_answers_77 fk_RX10_7 (km rfl hn) sh_336 (rt_336_1 hG) ?_
        refine x_bipush (v := 12) dX10_answers_80 kb_12 ?_
        refine x_dup2 dX10_answers_82 rfl rfl ?_
        obtain ⟨b14, h⟩ := h
        refine x_iaload dX10_answers_83 (km rfl hn) sh_337 b14 ?_
        refine x_iconst (v := 1) dX10_answers_84 ki_1 ?_
        refine x_iadd dX10_answers_85 ?_
        obtain ⟨b15, h⟩ := h
        refine x_iastore dX10_answers_86 (km rfl hn) sh_337 b15 (fun I16 eI16 => ?_)
        have h := h I16 eI16
        refine x_aload_n dX10_answers_87 rfl ?_
        refine x_iconst (v := 3) dX10_answers_88 ki_3 ?_
        refine x_iload_n dX10_answers_89 rfl ?_
        refine x_iload_n dX10_answers_90 rfl ?_
        refine x_aload_n dX10_answers_91 rfl ?_
        refine x_getr (j := 337) dX10_answers_92 fk_RX10_7 (km rfl hn) sh_336 (rt_336_1 hG) ?_
        refine x_bipush (v := 29) dX10_answers_95 kb_29 ?_
        refine x_iload_n dX10_answers_97 rfl ?_
        refine x_iadd dX10_answers_98 ?_
        obtain ⟨b17, h⟩ := h
        refine x_iaload dX10_answers_99 (km rfl hn) sh_337 b17 ?_
        refine x_cVi10 [.int 3, .int v1, .int (I 337 (ix (412 + (3 * v2)))), .int (I16 337 (ix (29 + (I 337 (ix (412 + (3 * v2)))))))] (mt_X10_begins hn hG h) dX10_answers_100 lk_RX10_167 (km rfl hn) sh_336 rfl rfl (Nat.le_of_ble_eq_true rfl) (Rf_of rfl) (fun x18 I19 h => ?_)
        refine x_istore (ls' := [(4, .int x18), (3, .int (I 337 (ix (412 + (3 * v2))))), (0, .ref 336), (1, .int v1), (2, .int v2)]) dX10_answers_103 (Nat.le_of_ble_eq_true rfl) rfl ?_
        refine x_aload_n dX10_answers_105 rfl ?_
        refine x_iload_n dX10_answers_106 rfl ?_
        refine x_cVi00 [.int v1] (mt_X10_nextCall hn hG h) dX10_answers_107 lk_RX10_159 (km rfl hn) sh_336 rfl rfl (Nat.le_of_ble_eq_true rfl) (Rf_of rfl) (fun x20 h => ?_)
        refine x_istore_n (ls' := [(2, .int x20), (4, .int x18), (3, .int (I 337 (ix (412 + (3 * v2))))), (0, .ref 336), (1, .int v1)]) dX10_answers_110 (Nat.le_of_ble_eq_true rfl) rfl ?_
        refine x_goto dX10_answers_111 (tgt := 6) rfl ?_
        refine x_ls (ls' := [(0, .ref 336), (1, .int v1), (2, .int x20)]) [3, 4, 0] rfl ?_
        exact ih x20 I19 h
def wp_X10_answers (I : MI) (v1 : Int32) (Q : MI → Prop) : Prop :=
    (wp_X10_nextCall I v1 (fun x1 => ((∃ N21, lp_X10_answers_6 v1 Q N21 x1 I))))
set_option maxRecDepth 20000 in
theorem mt_X10_answers {E : Ev} {l : Launch} {n : Nat} {R : MR} (hn : 349 ≤ n) (hG : GRm R) {I : MI} {L : ML} {v1 : Int32} {Q : MI → Prop} (h : wp_X10_answers I v1 Q) : MX E l rm_X10_answers yX10_answers cX10_answers 5 none [.ref 336, .int v1] n I L R (Qv n R (V10 I L Q)) := by
  refine MX_of (ls := [(0, .ref 336), (1, .int v1)]) (by decide) (Nat.le_of_ble_eq_true rfl) rfl ?_
  unfold wp_X10_answers at h
  refine x_aload_n dX10_answers_0 rfl ?_
  refine x_iload_n dX10_answers_1 rfl ?_
  refine x_cVi00 [.int v1] (mt_X10_nextCall hn hG h) dX10_answers_2 lk_RX10_159 (km rfl hn) sh_336 rfl rfl (Nat.le_of_ble_eq_true rfl) (Rf_of rfl) (fun x1 h => ?_)
  refine x_istore_n (ls' := [(2, .int x1), (0, .ref 336), (1, .int v1)]) dX10_answers_5 (Nat.le_of_ble_eq_true rfl) rfl ?_
  refine x_ls (ls' := [(0, .ref 336), (1, .int v1), (2, .int x1)]) [1, 2, 0] rfl ?_
  obtain ⟨N21, h⟩ := h
  exact lpt_X10_answers_6 hn hG  N21 x1 I h
abbrev rm_X10_areDays : Room := { frames := 1, cells := 0, slots := 0, locals := 22 }
def wp_X10_areDays (I : MI) (v1 : Int32) (v2 : Int32) (Q : Int32 → Prop) : Prop :=
    (wp_X10_isIn v1 1 v2 (fun x1 => (((x1 = 0 → Q 0) ∧ (¬ x1 = 0 → (vp_in 5 2212 ∧ ((9999 < ((I 337 (ix 5)) + v1) → Q 0) ∧ (¬ 9999 < ((I 337 (ix 5)) + v1) → Q 1))))))))
set_option maxRecDepth 20000 in
theorem mt_X10_areDays {E : Ev} {l : Launch} {n : Nat} {R : MR} (hn : 349 ≤ n) (hG : GRm R) {I : MI} {L : ML} {v1 : Int32} {v2 : Int32} {Q : Int32 → Prop} (h : wp_X10_areDays I v1 v2 Q) : MX E l rm_X10_areDays yX10_areDays cX10_areDays 3 (some .boolean) [.ref 336, .int v1, .int v2] n I L R (Qi n R (P00 I L Q)) := by
  refine MX_of (ls := [(0, .ref 336), (1, .int v1), (2, .int v2)]) (by decide) (Nat.le_of_ble_eq_true rfl) rfl ?_
  unfold wp_X10_areDays at h
  refine x_iload_n dX10_areDays_0 rfl ?_
  refine x_iconst (v := 1) dX10_areDays_1 ki_1 ?_
  refine x_iload_n dX10_areDays_2 rfl ?_
  refine x_cSi00 [.int v1, .int 1, .int v2] (mt_X10_isIn hn hG h) dX10_areDays_3 lk_RX10_51 rfl rfl (Nat.le_of_ble_eq_true rfl) (Rf_of rfl) (fun x1 h => ?_)
  refine x_if_eq dX10_areDays_6 (tgt := 27) rfl ⟨fun c2 => ?_, fun c2 => ?_⟩
  · have h := h.1 c2
    refine x_iconst (v := 0) dX10_areDays_27 ki_0 ?_
    exact x_zreturn dX10_areDays_28 rfl ⟨_, rfl, rfl, rfl, rfl, rfl, h⟩
  · have h := h.2 c2
    refine x_aload_n dX10_areDays_9 rfl ?_
    refine x_getr (j := 337) dX10_areDays_10 fk_RX10_7 (km rfl hn) sh_336 (rt_336_1 hG) ?_
    refine x_iconst (v := 5) dX10_areDays_13 ki_5 ?_
    obtain ⟨b3, h⟩ := h
    refine x_iaload dX10_areDays_14 (km rfl hn) sh_337 b3 ?_
    refine x_iload_n dX10_areDays_15 rfl ?_
    refine x_iadd dX10_areDays_16 ?_
    refine x_sipush (v := 9999) dX10_areDays_17 ks_9999 ?_
    refine x_icmp_gt dX10_areDays_20 (tgt := 27) rfl ⟨fun c4 => ?_, fun c4 => ?_⟩
    · have h := h.1 c4
      refine x_iconst (v := 0) dX10_areDays_27 ki_0 ?_
      exact x_zreturn dX10_areDays_28 rfl ⟨_, rfl, rfl, rfl, rfl, rfl, h⟩
    · have h := h.2 c4
      refine x_iconst (v := 1) dX10_areDays_23 ki_1 ?_
      refine x_goto dX10_areDays_24 (tgt := 28) rfl ?_
      exact x_zreturn dX10_areDays_28 rfl ⟨_, rfl, rfl, rfl, rfl, rfl, h⟩
abbrev rm_X10_comes : Room := { frames := 1, cells := 0, slots := 0, locals := 25 }
def jn_X10_comes_45 (v3 : Int32) (kj2 : Int32 → Prop) : Prop :=
    kj2 (v3 + 1)
set_option maxRecDepth 20000 in
theorem jnt_X10_comes_45 {E : Ev} {l : Launch} {n : Nat} {R : MR} (hn : 349 ≤ n) (hG : GRm R) {I0 : MI} {Q : MI → Prop} {I : MI} {L : ML} {v1 : Int32} {v2 : Int32} {v3 : Int32} {kj2 : Int32 → Prop}
    (hJ2 : ∀ (v3 : Int32), kj2 v3 → X E l rm_X10_comes yX10_comes cX10_comes 5 none noX (ZM E rm_X10_comes (Qv n R (V10 I0 L Q))) 2 [(0, .ref 336), (1, .int v1), (2, .int v2), (3, .int v3)] [] n I L R 0 0) (h : jn_X10_comes_45 v3 kj2) : X E l rm_X10_comes yX10_comes cX10_comes 5 none noX (ZM E rm_X10_comes (Qv n R (V10 I0 L Q))) 45 [(0, .ref 336), (1, .int v1), (2, .int v2), (3, .int v3)] [] n I L R 0 0 := by
  unfold jn_X10_comes_45 at h
  refine x_iinc (v := v3 + 1) (ls' := [(3, .int (v3 + 1)), (0, .ref 336), (1, .int v1), (2, .int v2)]) dX10_comes_45 rfl (congrArg (_ + ·) ki_1) (Nat.le_of_ble_eq_true rfl) rfl ?_
  refine x_goto dX10_comes_48 (tgt := 2) rfl ?_
  refine x_ls (ls' := [(0, .ref 336), (1, .int v1), (2, .int v2), (3, .int (v3 + 1))]) [1, 2, 3, 0] rfl ?_
  exact hJ2 (v3 + 1) h
def lp_X10_comes_2 (I : MI) (v1 : Int32) (v2 : Int32) (kf51 : Int32 → Prop) : Nat → Int32 → Prop
  | 0, _ => False
  | n + 1, v3 =>
    (vp_in 14 2212 ∧ (((I 337 (ix 14)) ≤ v3 → kf51 v3) ∧ (¬ (I 337 (ix 14)) ≤ v3 → (vp_in (92 + (4 * v3)) 2212 ∧ ((¬ (I 337 (ix (92 + (4 * v3)))) = v1 → (jn_X10_comes_45 v3 (fun x5 => (lp_X10_comes_2 I v1 v2 kf51 n x5)))) ∧ ((I 337 (ix (92 + (4 * v3)))) = v1 → (vp_in ((92 + (4 * v3)) + 1) 2212 ∧ (((I 337 (ix ((92 + (4 * v3)) + 1))) = v2 → kf51 v3) ∧ (¬ (I 337 (ix ((92 + (4 * v3)) + 1))) = v2 → (jn_X10_comes_45 v3 (fun x8 => (lp_X10_comes_2 I v1 v2 kf51 n x8))))))))))))
set_option maxRecDepth 20000 in
theorem lpt_X10_comes_2 {E : Ev} {l : Launch} {n : Nat} {R : MR} (hn : 349 ≤ n) (hG : GRm R) {I0 : MI} {Q : MI → Prop} {I : MI} {v1 : Int32} {v2 : Int32} {L : ML} {kf51 : Int32 → Prop}
    (hK51 : ∀ (v3 : Int32), kf51 v3 → X E l rm_X10_comes yX10_comes cX10_comes 5 none noX (ZM E rm_X10_comes (Qv n R (V10 I0 L Q))) 51 [(0, .ref 336), (1, .int v1), (2, .int v2), (3, .int v3)] [] n I L R 0 0) : ∀ (N : Nat) (v3 : Int32), lp_X10_comes_2 I v1 v2 kf51 N v3 → X E l rm_X10_comes yX10_comes cX10_comes 5 none noX (ZM E rm_X10_comes (Qv n R (V10 I0 L Q))) 2 [(0, .ref 336), (1, .int v1), (2, .int v2), (3, .int v3)] [] n I L R 0 0 := by
  intro N
  induction N with
  | zero => intro v3 h; exact False.elim h
  | succ N ih =>
    intro v3 h
    unfold lp_X10_comes_2 at h
    refine x_iload_n dX10_comes_2 rfl ?_
    refine x_aload_n dX10_comes_3 rfl ?_
    refine x_getr (j := 337) dX10_comes_4 fk_RX10_7 (km rfl hn) sh_336 (rt_336_1 hG) ?_
    refine x_bipush (v := 14) dX10_comes_7 kb_14 ?_
    obtain ⟨b1, h⟩ := h
    refine x_iaload dX10_comes_9 (km rfl hn) sh_337 b1 ?_
    refine x_icmp_ge dX10_comes_10 (tgt := 51) rfl ⟨fun c2 => ?_, fun c2 => ?_⟩
    · have h := h.1 c2
      exact hK51 v3 h
    · have h := h.2 c2
      refine x_aload_n dX10_comes_13 rfl ?_
      refine x_getr (j := 337) dX10_comes_14 fk_RX10_7 (km rfl hn) sh_336 (rt_336_1 hG) ?_
      refine x_bipush (v := 92) dX10_comes_17 kb_92 ?_
      refine x_iconst (v := 4) dX10_comes_19 ki_4 ?_
      refine x_iload_n dX10_comes_20 rfl ?_
      refine x_imul dX10_comes_21 ?_
      refine x_iadd dX10_comes_22 ?_
      obtain ⟨b3, h⟩ := h
      refine x_iaload dX10_comes_23 (km rfl hn) sh_337 b3 ?_
      refine x_iload_n dX10_comes_24 rfl ?_
      refine x_icmp_ne dX10_comes_25 (tgt := 45) rfl ⟨fun c4 => ?_, fun c4 => ?_⟩
      · have h := h.1 c4
        refine jnt_X10_comes_45 hn hG (fun x5 h => ?_) h
        exact ih x5 h
      · have h := h.2 c4
        refine x_aload_n dX10_comes_28 rfl ?_
        refine x_getr (j := 337) dX10_comes_29 fk_RX10_7 (km rfl hn) sh_336 (rt_336_1 hG) ?_
        refine x_bipush (v := 92) dX10_comes_32 kb_92 ?_
        refine x_iconst (v := 4) dX10_comes_34 ki_4 ?_
        refine x_iload_n dX10_comes_35 rfl ?_
        refine x_imul dX10_comes_36 ?_
        refine x_iadd dX10_comes_37 ?_
        refine x_iconst (v := 1) dX10_comes_38 ki_1 ?_
        refine x_iadd dX10_comes_39 ?_
        obtain ⟨b6, h⟩ := h
        refine x_iaload dX10_comes_40 (km rfl hn) sh_337 b6 ?_
        refine x_iload_n dX10_comes_41 rfl ?_
        refine x_icmp_eq dX10_comes_42 (tgt := 51) rfl ⟨fun c7 => ?_, fun c7 => ?_⟩
        · have h := h.1 c7
          exact hK51 v3 h
        · have h := h.2 c7
          refine jnt_X10_comes_45 hn hG (fun x8 h => ?_) h
          exact ih x8 h
def jn_X10_comes_51 (I : MI) (v1 : Int32) (v2 : Int32) (v3 : Int32) (Q : MI → Prop) : Prop :=
    (vp_in 14 2212 ∧ ((¬ v3 = (I 337 (ix 14)) → (vp_in 5 2212 ∧ (vp_in ((92 + (4 * v3)) + 2) 2212 ∧ (vp_in 14 2212 ∧ (wp_X10_closes I 92 4 v3 (I 337 (ix 14)) (fun I16 => ((vp_in 14 2212 ∧ (vp_in 14 2212 ∧ (∀ I19, I19 = u2 I16 337 (ix 14) ((I16 337 (ix 14)) - 1) → (wp_X10_cellOf v1 v2 (fun x20 => ((vp_in (74 + x20) 2212 ∧ (vp_in (74 + x20) 2212 ∧ (∀ I23, I23 = u2 I19 337 (ix (74 + x20)) ((I19 337 (ix (74 + x20))) - 1) → (vp_in 8 2212 ∧ (vp_in 8 2212 ∧ (∀ I26, I26 = u2 I23 337 (ix 8) ((I23 337 (ix 8)) + 1) → (vp_in 9 2212 ∧ (vp_in 9 2212 ∧ (∀ I29, I29 = u2 I26 337 (ix 9) ((I26 337 (ix 9)) + ((I 337 (ix 5)) - (I 337 (ix ((92 + (4 * v3)) + 2))))) → (vp_in 10 2212 ∧ ((((I 337 (ix 5)) - (I 337 (ix ((92 + (4 * v3)) + 2)))) ≤ (I29 337 (ix 10)) → (vp_in 10 2212 ∧ (vp_in 10 2212 ∧ (∀ I34, I34 = u2 I29 337 (ix 10) (I29 337 (ix 10)) → Q I34)))) ∧ (¬ ((I 337 (ix 5)) - (I 337 (ix ((92 + (4 * v3)) + 2)))) ≤ (I29 337 (ix 10)) → (vp_in 10 2212 ∧ (∀ I36, I36 = u2 I29 337 (ix 10) ((I 337 (ix 5)) - (I 337 (ix ((92 + (4 * v3)) + 2)))) → Q I36))))))))))))))))))))))))))) ∧ (v3 = (I 337 (ix 14)) → (wp_X10_cellOf v1 v2 (fun x37 => ((vp_in (62 + x37) 2212 ∧ (vp_in (62 + x37) 2212 ∧ (∀ I40, I40 = u2 I 337 (ix (62 + x37)) ((I 337 (ix (62 + x37))) + 1) → Q I40)))))))))
set_option maxRecDepth 20000 in
theorem jnt_X10_comes_51 {E : Ev} {l : Launch} {n : Nat} {R : MR} (hn : 349 ≤ n) (hG : GRm R) {I0 : MI} {Q : MI → Prop} {I : MI} {L : ML} {v1 : Int32} {v2 : Int32} {v3 : Int32} (h : jn_X10_comes_51 I v1 v2 v3 Q) : X E l rm_X10_comes yX10_comes cX10_comes 5 none noX (ZM E rm_X10_comes (Qv n R (V10 I0 L Q))) 51 [(0, .ref 336), (1, .int v1), (2, .int v2), (3, .int v3)] [] n I L R 0 0 := by
  unfold jn_X10_comes_51 at h
  refine x_iload_n dX10_comes_51 rfl ?_
  refine x_aload_n dX10_comes_52 rfl ?_
  refine x_getr (j := 337) dX10_comes_53 fk_RX10_7 (km rfl hn) sh_336 (rt_336_1 hG) ?_
  refine x_bipush (v := 14) dX10_comes_56 kb_14 ?_
  obtain ⟨b11, h⟩ := h
  refine x_iaload dX10_comes_58 (km rfl hn) sh_337 b11 ?_
  refine x_icmp_ne dX10_comes_59 (tgt := 80) rfl ⟨fun c12 => ?_, fun c12 => ?_⟩
  · have h := h.1 c12
    refine x_aload_n dX10_comes_80 rfl ?_
    refine x_getr (j := 337) dX10_comes_81 fk_RX10_7 (km rfl hn) sh_336 (rt_336_1 hG) ?_
    refine x_iconst (v := 5) dX10_comes_84 ki_5 ?_
    obtain ⟨b13, h⟩ := h
    refine x_iaload dX10_comes_85 (km rfl hn) sh_337 b13 ?_
    refine x_aload_n dX10_comes_86 rfl ?_
    refine x_getr (j := 337) dX10_comes_87 fk_RX10_7 (km rfl hn) sh_336 (rt_336_1 hG) ?_
    refine x_bipush (v := 92) dX10_comes_90 kb_92 ?_
    refine x_iconst (v := 4) dX10_comes_92 ki_4 ?_
    refine x_iload_n dX10_comes_93 rfl ?_
    refine x_imul dX10_comes_94 ?_
    refine x_iadd dX10_comes_95 ?_
    refine x_iconst (v := 2) dX10_comes_96 ki_2 ?_
    refine x_iadd dX10_comes_97 ?_
    obtain ⟨b14, h⟩ := h
    refine x_iaload dX10_comes_98 (km rfl hn) sh_337 b14 ?_
    refine x_isub dX10_comes_99 ?_
    refine x_istore (ls' := [(4, .int ((I 337 (ix 5)) - (I 337 (ix ((92 + (4 * v3)) + 2))))), (0, .ref 336), (1, .int v1), (2, .int v2), (3, .int v3)]) dX10_comes_100 (Nat.le_of_ble_eq_true rfl) rfl ?_
    refine x_aload_n dX10_comes_102 rfl ?_
    refine x_bipush (v := 92) dX10_comes_103 kb_92 ?_
    refine x_iconst (v := 4) dX10_comes_105 ki_4 ?_
    refine x_iload_n dX10_comes_106 rfl ?_
    refine x_aload_n dX10_comes_107 rfl ?_
    refine x_getr (j := 337) dX10_comes_108 fk_RX10_7 (km rfl hn) sh_336 (rt_336_1 hG) ?_
    refine x_bipush (v := 14) dX10_comes_111 kb_14 ?_
    obtain ⟨b15, h⟩ := h
    refine x_iaload dX10_comes_113 (km rfl hn) sh_337 b15 ?_
    refine x_cVv10 [.int 92, .int 4, .int v3, .int (I 337 (ix 14))] (mt_X10_closes hn hG h) dX10_comes_114 lk_RX10_163 (km rfl hn) sh_336 rfl rfl (Nat.le_of_ble_eq_true rfl) (Rf_of rfl) (fun I16 h => ?_)
    refine x_aload_n dX10_comes_117 rfl ?_
    refine x_getr (j := 337) dX10_comes_118 fk_RX10_7 (km rfl hn) sh_336 (rt_336_1 hG) ?_
    refine x_bipush (v := 14) dX10_comes_121 kb_14 ?_
    refine x_dup2 dX10_comes_123 rfl rfl ?_
    obtain ⟨b17, h⟩ := h
    refine x_iaload dX10_comes_124 (km rfl hn) sh_337 b17 ?_
    refine x_iconst (v := 1) dX10_comes_125 ki_1 ?_
    refine x_isub dX10_comes_126 ?_
    obtain ⟨b18, h⟩ := h
    refine x_iastore dX10_comes_127 (km rfl hn) sh_337 b18 (fun I19 eI19 => ?_)
    have h := h I19 eI19
    refine x_aload_n dX10_comes_128 rfl ?_
    refine x_getr (j := 337) dX10_comes_129 fk_RX10_7 (km rfl hn) sh_336 (rt_336_1 hG) ?_
    refine x_bipush (v := 74) dX10_comes_132 kb_74 ?_
    refine x_iload_n dX10_comes_134 rfl ?_
    refine x_iload_n dX10_comes_135 rfl ?_
    refine x_cSi00 [.int v1, .int v2] (mt_X10_cellOf hn hG h) dX10_comes_136 lk_RX10_104 rfl rfl (Nat.le_of_ble_eq_true rfl) (Rf_of rfl) (fun x20 h => ?_)
    refine x_iadd dX10_comes_139 ?_
    refine x_dup2 dX10_comes_140 rfl rfl ?_
    obtain ⟨b21, h⟩ := h
    refine x_iaload dX10_comes_141 (km rfl hn) sh_337 b21 ?_
    refine x_iconst (v := 1) dX10_comes_142 ki_1 ?_
    refine x_isub dX10_comes_143 ?_
    obtain ⟨b22, h⟩ := h
    refine x_iastore dX10_comes_144 (km rfl hn) sh_337 b22 (fun I23 eI23 => ?_)
    have h := h I23 eI23
    refine x_aload_n dX10_comes_145 rfl ?_
    refine x_getr (j := 337) dX10_comes_146 fk_RX10_7 (km rfl hn) sh_336 (rt_336_1 hG) ?_
    refine x_bipush (v := 8) dX10_comes_149 kb_8 ?_
    refine x_dup2 dX10_comes_151 rfl rfl ?_
    obtain ⟨b24, h⟩ := h
    refine x_iaload dX10_comes_152 (km rfl hn) sh_337 b24 ?_
    refine x_iconst (v := 1) dX10_comes_153 ki_1 ?_
    refine x_iadd dX10_comes_154 ?_
    obtain ⟨b25, h⟩ := h
    refine x_iastore dX10_comes_155 (km rfl hn) sh_337 b25 (fun I26 eI26 => ?_)
    have h := h I26 eI26
    refine x_aload_n dX10_comes_156 rfl ?_
    refine x_getr (j := 337) dX10_comes_157 fk_RX10_7 (km rfl hn) sh_336 (rt_336_1 hG) ?_
    refine x_bipush (v := 9) dX10_comes_160 kb_9 ?_
    refine x_dup2 dX10_comes_162 rfl rfl ?_
    obtain ⟨b27, h⟩ := h
    refine x_iaload dX10_comes_163 (km rfl hn) sh_337 b27 ?_
    refine x_iload dX10_comes_164 rfl ?_
    refine x_iadd dX10_comes_166 ?_
    obtain ⟨b28, h⟩ := h
    refine x_iastore dX10_comes_167 (km rfl hn) sh_337 b28 (fun I29 eI29 => ?_)
    have h := h I29 eI29
    refine x_aload_n dX10_comes_168 rfl ?_
    refine x_getr (j := 337) dX10_comes_169 fk_RX10_7 (km rfl hn) sh_336 (rt_336_1 hG) ?_
    refine x_bipush (v := 10) dX10_comes_172 kb_10 ?_
    refine x_iload dX10_comes_174 rfl ?_
    refine x_aload_n dX10_comes_176 rfl ?_
    refine x_getr (j := 337) dX10_comes_177 fk_RX10_7 (km rfl hn) sh_336 (rt_336_1 hG) ?_
    refine x_bipush (v := 10) dX10_comes_180 kb_10 ?_
    obtain ⟨b30, h⟩ := h
    refine x_iaload dX10_comes_182 (km rfl hn) sh_337 b30 ?_
    refine x_icmp_le dX10_comes_183 (tgt := 191) rfl ⟨fun c31 => ?_, fun c31 => ?_⟩
    · have h := h.1 c31
      refine x_aload_n dX10_comes_191 rfl ?_
      refine x_getr (j := 337) dX10_comes_192 fk_RX10_7 (km rfl hn) sh_336 (rt_336_1 hG) ?_
      refine x_bipush (v := 10) dX10_comes_195 kb_10 ?_
      obtain ⟨b32, h⟩ := h
      refine x_iaload dX10_comes_197 (km rfl hn) sh_337 b32 ?_
      obtain ⟨b33, h⟩ := h
      refine x_iastore dX10_comes_198 (km rfl hn) sh_337 b33 (fun I34 eI34 => ?_)
      have h := h I34 eI34
      exact x_return dX10_comes_199 ⟨rfl, rfl, rfl, rfl, h⟩
    · have h := h.2 c31
      refine x_iload dX10_comes_186 rfl ?_
      refine x_goto dX10_comes_188 (tgt := 198) rfl ?_
      obtain ⟨b35, h⟩ := h
      refine x_iastore dX10_comes_198 (km rfl hn) sh_337 b35 (fun I36 eI36 => ?_)
      have h := h I36 eI36
      exact x_return dX10_comes_199 ⟨rfl, rfl, rfl, rfl, h⟩
  · have h := h.2 c12
    refine x_aload_n dX10_comes_62 rfl ?_
    refine x_getr (j := 337) dX10_comes_63 fk_RX10_7 (km rfl hn) sh_336 (rt_336_1 hG) ?_
    refine x_bipush (v := 62) dX10_comes_66 kb_62 ?_
    refine x_iload_n dX10_comes_68 rfl ?_
    refine x_iload_n dX10_comes_69 rfl ?_
    refine x_cSi00 [.int v1, .int v2] (mt_X10_cellOf hn hG h) dX10_comes_70 lk_RX10_104 rfl rfl (Nat.le_of_ble_eq_true rfl) (Rf_of rfl) (fun x37 h => ?_)
    refine x_iadd dX10_comes_73 ?_
    refine x_dup2 dX10_comes_74 rfl rfl ?_
    obtain ⟨b38, h⟩ := h
    refine x_iaload dX10_comes_75 (km rfl hn) sh_337 b38 ?_
    refine x_iconst (v := 1) dX10_comes_76 ki_1 ?_
    refine x_iadd dX10_comes_77 ?_
    obtain ⟨b39, h⟩ := h
    refine x_iastore dX10_comes_78 (km rfl hn) sh_337 b39 (fun I40 eI40 => ?_)
    have h := h I40 eI40
    exact x_return dX10_comes_79 ⟨rfl, rfl, rfl, rfl, h⟩
def wp_X10_comes (I : MI) (v1 : Int32) (v2 : Int32) (Q : MI → Prop) : Prop :=
    (∃ N9, lp_X10_comes_2 I v1 v2 (fun x10 => (jn_X10_comes_51 I v1 v2 x10 Q)) N9 0)
set_option maxRecDepth 20000 in
theorem mt_X10_comes {E : Ev} {l : Launch} {n : Nat} {R : MR} (hn : 349 ≤ n) (hG : GRm R) {I : MI} {L : ML} {v1 : Int32} {v2 : Int32} {Q : MI → Prop} (h : wp_X10_comes I v1 v2 Q) : MX E l rm_X10_comes yX10_comes cX10_comes 5 none [.ref 336, .int v1, .int v2] n I L R (Qv n R (V10 I L Q)) := by
  refine MX_of (ls := [(0, .ref 336), (1, .int v1), (2, .int v2)]) (by decide) (Nat.le_of_ble_eq_true rfl) rfl ?_
  unfold wp_X10_comes at h
  refine x_iconst (v := 0) dX10_comes_0 ki_0 ?_
  refine x_istore_n (ls' := [(3, .int 0), (0, .ref 336), (1, .int v1), (2, .int v2)]) dX10_comes_1 (Nat.le_of_ble_eq_true rfl) rfl ?_
  refine x_ls (ls' := [(0, .ref 336), (1, .int v1), (2, .int v2), (3, .int 0)]) [1, 2, 3, 0] rfl ?_
  obtain ⟨N9, h⟩ := h
  refine lpt_X10_comes_2 hn hG (fun x10 h => ?_) N9 0 h
  exact jnt_X10_comes_51 hn hG  h
abbrev rm_X10_onBenches : Room := { frames := 0, cells := 0, slots := 0, locals := 0 }
def jn_X10_onBenches_37 (v2 : Int32) (s0 : Int32) (s1 : Int32) (kj4 : Int32 → Int32 → Prop) : Prop :=
    kj4 (s1 + s0) (v2 + 1)
set_option maxRecDepth 20000 in
theorem jnt_X10_onBenches_37 {E : Ev} {l : Launch} {n : Nat} {R : MR} (hn : 349 ≤ n) (hG : GRm R) {Q : Int32 → Prop} {I : MI} {L : ML} {v2 : Int32} {s0 : Int32} {s1 : Int32} {kj4 : Int32 → Int32 → Prop}
    (hJ4 : ∀ (v1 : Int32) (v2 : Int32), kj4 v1 v2 → X E l rm_X10_onBenches yX10_onBenches cX10_onBenches 3 (some .int) noX (ZM E rm_X10_onBenches (Qi n R (P00 I L Q))) 4 [(0, .ref 336), (1, .int v1), (2, .int v2)] [] n I L R 0 0) (h : jn_X10_onBenches_37 v2 s0 s1 kj4) : X E l rm_X10_onBenches yX10_onBenches cX10_onBenches 3 (some .int) noX (ZM E rm_X10_onBenches (Qi n R (P00 I L Q))) 37 [(0, .ref 336), (2, .int v2)] [.int s0, .int s1] n I L R 0 0 := by
  unfold jn_X10_onBenches_37 at h
  refine x_iadd dX10_onBenches_37 ?_
  refine x_istore_n (ls' := [(1, .int (s1 + s0)), (0, .ref 336), (2, .int v2)]) dX10_onBenches_38 (Nat.le_of_ble_eq_true rfl) rfl ?_
  refine x_iinc (v := v2 + 1) (ls' := [(2, .int (v2 + 1)), (1, .int (s1 + s0)), (0, .ref 336)]) dX10_onBenches_39 rfl (congrArg (_ + ·) ki_1) (Nat.le_of_ble_eq_true rfl) rfl ?_
  refine x_goto dX10_onBenches_42 (tgt := 4) rfl ?_
  refine x_ls (ls' := [(0, .ref 336), (1, .int (s1 + s0)), (2, .int (v2 + 1))]) [2, 1, 0] rfl ?_
  exact hJ4 (s1 + s0) (v2 + 1) h
def lp_X10_onBenches_4 (I : MI) (Q : Int32 → Prop) : Nat → Int32 → Int32 → Prop
  | 0, _, _ => False
  | n + 1, v1, v2 =>
    (vp_in 16 2212 ∧ (((I 337 (ix 16)) ≤ v2 → Q v1) ∧ (¬ (I 337 (ix 16)) ≤ v2 → (vp_in (1012 + (5 * v2)) 2212 ∧ ((¬ (I 337 (ix (1012 + (5 * v2)))) = 2 → (jn_X10_onBenches_37 v2 0 v1 (fun x5 x6 => (lp_X10_onBenches_4 I Q n x5 x6)))) ∧ ((I 337 (ix (1012 + (5 * v2)))) = 2 → (jn_X10_onBenches_37 v2 1 v1 (fun x7 x8 => (lp_X10_onBenches_4 I Q n x7 x8)))))))))
set_option maxRecDepth 20000 in
theorem lpt_X10_onBenches_4 {E : Ev} {l : Launch} {n : Nat} {R : MR} (hn : 349 ≤ n) (hG : GRm R) {Q : Int32 → Prop} {I : MI} {L : ML} : ∀ (N : Nat) (v1 : Int32) (v2 : Int32), lp_X10_onBenches_4 I Q N v1 v2 → X E l rm_X10_onBenches yX10_onBenches cX10_onBenches 3 (some .int) noX (ZM E rm_X10_onBenches (Qi n R (P00 I L Q))) 4 [(0, .ref 336), (1, .int v1), (2, .int v2)] [] n I L R 0 0 := by
  intro N
  induction N with
  | zero => intro v1 v2 h; exact False.elim h
  | succ N ih =>
    intro v1 v2 h
    unfold lp_X10_onBenches_4 at h
    refine x_iload_n dX10_onBenches_4 rfl ?_
    refine x_aload_n dX10_onBenches_5 rfl ?_
    refine x_getr (j := 337) dX10_onBenches_6 fk_RX10_7 (km rfl hn) sh_336 (rt_336_1 hG) ?_
    refine x_bipush (v := 16) dX10_onBenches_9 kb_16 ?_
    obtain ⟨b1, h⟩ := h
    refine x_iaload dX10_onBenches_11 (km rfl hn) sh_337 b1 ?_
    refine x_icmp_ge dX10_onBenches_12 (tgt := 45) rfl ⟨fun c2 => ?_, fun c2 => ?_⟩
    · have h := h.1 c2
      refine x_iload_n dX10_onBenches_45 rfl ?_
      exact x_ireturn dX10_onBenches_46 ⟨_, rfl, rfl, rfl, rfl, rfl, h⟩
    · have h := h.2 c2
      refine x_iload_n dX10_onBenches_15 rfl ?_
      refine x_aload_n dX10_onBenches_16 rfl ?_
      refine x_getr (j := 337) dX10_onBenches_17 fk_RX10_7 (km rfl hn) sh_336 (rt_336_1 hG) ?_
      refine x_sipush (v := 1012) dX10_onBenches_20 ks_1012 ?_
      refine x_iconst (v := 5) dX10_onBenches_23 ki_5 ?_
      refine x_iload_n dX10_onBenches_24 rfl ?_
      refine x_imul dX10_onBenches_25 ?_
      refine x_iadd dX10_onBenches_26 ?_
      obtain ⟨b3, h⟩ := h
      refine x_iaload dX10_onBenches_27 (km rfl hn) sh_337 b3 ?_
      refine x_iconst (v := 2) dX10_onBenches_28 ki_2 ?_
      refine x_icmp_ne dX10_onBenches_29 (tgt := 36) rfl ⟨fun c4 => ?_, fun c4 => ?_⟩
      · have h := h.1 c4
        refine x_iconst (v := 0) dX10_onBenches_36 ki_0 ?_
        refine x_ls (ls' := [(0, .ref 336), (2, .int v2)]) [0, 2] rfl ?_
        refine jnt_X10_onBenches_37 hn hG (fun x5 x6 h => ?_) h
        exact ih x5 x6 h
      · have h := h.2 c4
        refine x_iconst (v := 1) dX10_onBenches_32 ki_1 ?_
        refine x_goto dX10_onBenches_33 (tgt := 37) rfl ?_
        refine x_ls (ls' := [(0, .ref 336), (2, .int v2)]) [0, 2] rfl ?_
        refine jnt_X10_onBenches_37 hn hG (fun x7 x8 h => ?_) h
        exact ih x7 x8 h
def wp_X10_onBenches (I : MI) (Q : Int32 → Prop) : Prop :=
    (∃ N9, lp_X10_onBenches_4 I Q N9 0 0)
set_option maxRecDepth 20000 in
theorem mt_X10_onBenches {E : Ev} {l : Launch} {n : Nat} {R : MR} (hn : 349 ≤ n) (hG : GRm R) {I : MI} {L : ML} {Q : Int32 → Prop} (h : wp_X10_onBenches I Q) : MX E l rm_X10_onBenches yX10_onBenches cX10_onBenches 3 (some .int) [.ref 336] n I L R (Qi n R (P00 I L Q)) := by
  refine MX_of (ls := [(0, .ref 336)]) (by decide) (Nat.le_of_ble_eq_true rfl) rfl ?_
  unfold wp_X10_onBenches at h
  refine x_iconst (v := 0) dX10_onBenches_0 ki_0 ?_
  refine x_istore_n (ls' := [(1, .int 0), (0, .ref 336)]) dX10_onBenches_1 (Nat.le_of_ble_eq_true rfl) rfl ?_
  refine x_iconst (v := 0) dX10_onBenches_2 ki_0 ?_
  refine x_istore_n (ls' := [(2, .int 0), (1, .int 0), (0, .ref 336)]) dX10_onBenches_3 (Nat.le_of_ble_eq_true rfl) rfl ?_
  refine x_ls (ls' := [(0, .ref 336), (1, .int 0), (2, .int 0)]) [2, 1, 0] rfl ?_
  obtain ⟨N9, h⟩ := h
  exact lpt_X10_onBenches_4 hn hG  N9 0 0 h
abbrev rm_X10_loads : Room := { frames := 1, cells := 0, slots := 0, locals := 25 }
def lp_X10_loads_0 (Q : MI → Prop) : Nat → MI → Prop
  | 0, _ => False
  | n + 1, I =>
    (vp_in 17 2212 ∧ (((I 337 (ix 17)) ≤ 0 → Q I) ∧ (¬ (I 337 (ix 17)) ≤ 0 → (wp_X10_onBenches I (fun x3 => ((vp_in 2 2212 ∧ (((I 337 (ix 2)) ≤ x3 → Q I) ∧ (¬ (I 337 (ix 2)) ≤ x3 → (vp_in 2012 2212 ∧ (vp_in 17 2212 ∧ (wp_X10_closes I 2012 1 0 (I 337 (ix 17)) (fun I8 => ((vp_in 17 2212 ∧ (vp_in 17 2212 ∧ (∀ I11, I11 = u2 I8 337 (ix 17) ((I8 337 (ix 17)) - 1) → (vp_in (26 + (I 337 (ix 2012))) 2212 ∧ (wp_X10_begins I11 2 (I 337 (ix 2012)) (-2) (I11 337 (ix (26 + (I 337 (ix 2012))))) (fun x13 I14 => ((lp_X10_loads_0 Q n I14))))))))))))))))))))))
set_option maxRecDepth 20000 in
theorem lpt_X10_loads_0 {E : Ev} {l : Launch} {n : Nat} {R : MR} (hn : 349 ≤ n) (hG : GRm R) {I0 : MI} {Q : MI → Prop} {L : ML} : ∀ (N : Nat) (I : MI), lp_X10_loads_0 Q N I → X E l rm_X10_loads yX10_loads cX10_loads 3 none noX (ZM E rm_X10_loads (Qv n R (V10 I0 L Q))) 0 [(0, .ref 336)] [] n I L R 0 0 := by
  intro N
  induction N with
  | zero => intro I h; exact False.elim h
  | succ N ih =>
    intro I h
    unfold lp_X10_loads_0 at h
    refine x_aload_n dX10_loads_0 rfl ?_
    refine x_getr (j := 337) dX10_loads_1 fk_RX10_7 (km rfl hn) sh_336 (rt_336_1 hG) ?_
    refine x_bipush (v := 17) dX10_loads_4 kb_17 ?_
    obtain ⟨b1, h⟩ := h
    refine x_iaload dX10_loads_6 (km rfl hn) sh_337 b1 ?_
    refine x_if_le dX10_loads_7 (tgt := 80) rfl ⟨fun c2 => ?_, fun c2 => ?_⟩
    · have h := h.1 c2
      exact x_return dX10_loads_80 ⟨rfl, rfl, rfl, rfl, h⟩
    · have h := h.2 c2
      refine x_aload_n dX10_loads_10 rfl ?_
      refine x_cVi00 [] (mt_X10_onBenches hn hG h) dX10_loads_11 lk_RX10_171 (km rfl hn) sh_336 rfl rfl (Nat.le_of_ble_eq_true rfl) (Rf_of rfl) (fun x3 h => ?_)
      refine x_aload_n dX10_loads_14 rfl ?_
      refine x_getr (j := 337) dX10_loads_15 fk_RX10_7 (km rfl hn) sh_336 (rt_336_1 hG) ?_
      refine x_iconst (v := 2) dX10_loads_18 ki_2 ?_
      obtain ⟨b4, h⟩ := h
      refine x_iaload dX10_loads_19 (km rfl hn) sh_337 b4 ?_
      refine x_icmp_ge dX10_loads_20 (tgt := 80) rfl ⟨fun c5 => ?_, fun c5 => ?_⟩
      · have h := h.1 c5
        exact x_return dX10_loads_80 ⟨rfl, rfl, rfl, rfl, h⟩
      · have h := h.2 c5
        refine x_aload_n dX10_loads_23 rfl ?_
        refine x_getr (j := 337) dX10_loads_24 fk_RX10_7 (km rfl hn) sh_336 (rt_336_1 hG) ?_
        refine x_sipush (v := 2012) dX10_loads_27 ks_2012 ?_
        obtain ⟨b6, h⟩ := h
        refine x_iaload dX10_loads_30 (km rfl hn) sh_337 b6 ?_
        refine x_istore_n (ls' := [(1, .int (I 337 (ix 2012))), (0, .ref 336)]) dX10_loads_31 (Nat.le_of_ble_eq_true rfl) rfl ?_
        refine x_aload_n dX10_loads_32 rfl ?_
        refine x_sipush (v := 2012) dX10_loads_33 ks_2012 ?_
        refine x_iconst (v := 1) dX10_loads_36 ki_1 ?_
        refine x_iconst (v := 0) dX10_loads_37 ki_0 ?_
        refine x_aload_n dX10_loads_38 rfl ?_
        refine x_getr (j := 337) dX10_loads_39 fk_RX10_7 (km rfl hn) sh_336 (rt_336_1 hG) ?_
        refine x_bipush (v := 17) dX10_loads_42 kb_17 ?_
        obtain ⟨b7, h⟩ := h
        refine x_iaload dX10_loads_44 (km rfl hn) sh_337 b7 ?_
        refine x_cVv10 [.int 2012, .int 1, .int 0, .int (I 337 (ix 17))] (mt_X10_closes hn hG h) dX10_loads_45 lk_RX10_163 (km rfl hn) sh_336 rfl rfl (Nat.le_of_ble_eq_true rfl) (Rf_of rfl) (fun I8 h => ?_)
        refine x_aload_n dX10_loads_48 rfl ?_
        refine x_getr (j := 337) dX10_loads_49 fk_RX10_7 (km rfl hn) sh_336 (rt_336_1 hG) ?_
        refine x_bipush (v := 17) dX10_loads_52 kb_17 ?_
        refine x_dup2 dX10_loads_54 rfl rfl ?_
        obtain ⟨b9, h⟩ := h
        refine x_iaload dX10_loads_55 (km rfl hn) sh_337 b9 ?_
        refine x_iconst (v := 1) dX10_loads_56 ki_1 ?_
        refine x_isub dX10_loads_57 ?_
        obtain ⟨b10, h⟩ := h
        refine x_iastore dX10_loads_58 (km rfl hn) sh_337 b10 (fun I11 eI11 => ?_)
        have h := h I11 eI11
        refine x_aload_n dX10_loads_59 rfl ?_
        refine x_iconst (v := 2) dX10_loads_60 ki_2 ?_
        refine x_iload_n dX10_loads_61 rfl ?_
        refine x_bipush (v := (-2)) dX10_loads_62 kb_m2 ?_
        refine x_aload_n dX10_loads_64 rfl ?_
        refine x_getr (j := 337) dX10_loads_65 fk_RX10_7 (km rfl hn) sh_336 (rt_336_1 hG) ?_
        refine x_bipush (v := 26) dX10_loads_68 kb_26 ?_
        refine x_iload_n dX10_loads_70 rfl ?_
        refine x_iadd dX10_loads_71 ?_
        obtain ⟨b12, h⟩ := h
        refine x_iaload dX10_loads_72 (km rfl hn) sh_337 b12 ?_
        refine x_cVi10 [.int 2, .int (I 337 (ix 2012)), .int (-2), .int (I11 337 (ix (26 + (I 337 (ix 2012)))))] (mt_X10_begins hn hG h) dX10_loads_73 lk_RX10_167 (km rfl hn) sh_336 rfl rfl (Nat.le_of_ble_eq_true rfl) (Rf_of rfl) (fun x13 I14 h => ?_)
        refine x_istore_n (ls' := [(2, .int x13), (1, .int (I 337 (ix 2012))), (0, .ref 336)]) dX10_loads_76 (Nat.le_of_ble_eq_true rfl) rfl ?_
        refine x_goto dX10_loads_77 (tgt := 0) rfl ?_
        refine x_ls (ls' := [(0, .ref 336)]) [2] rfl ?_
        exact ih I14 h
def wp_X10_loads (I : MI) (Q : MI → Prop) : Prop :=
    (∃ N15, lp_X10_loads_0 Q N15 I)
set_option maxRecDepth 20000 in
theorem mt_X10_loads {E : Ev} {l : Launch} {n : Nat} {R : MR} (hn : 349 ≤ n) (hG : GRm R) {I : MI} {L : ML} {Q : MI → Prop} (h : wp_X10_loads I Q) : MX E l rm_X10_loads yX10_loads cX10_loads 3 none [.ref 336] n I L R (Qv n R (V10 I L Q)) := by
  refine MX_of (ls := [(0, .ref 336)]) (by decide) (Nat.le_of_ble_eq_true rfl) rfl ?_
  unfold wp_X10_loads at h
  obtain ⟨N15, h⟩ := h
  exact lpt_X10_loads_0 hn hG  N15 I h
abbrev rm_X10_arrives : Room := { frames := 3, cells := 0, slots := 0, locals := 73 }
def wp_X10_arrives (I : MI) (v1 : Int32) (Q : MI → Prop) : Prop :=
    (vp_in (1012 + (5 * v1)) 2212 ∧ (vp_in ((1012 + (5 * v1)) + 2) 2212 ∧ (vp_in ((1012 + (5 * v1)) + 3) 2212 ∧ (vp_in 16 2212 ∧ (wp_X10_closes I 1012 5 v1 (I 337 (ix 16)) (fun I5 => ((vp_in 16 2212 ∧ (vp_in 16 2212 ∧ (∀ I8, I8 = u2 I5 337 (ix 16) ((I5 337 (ix 16)) - 1) → ((¬ (I 337 (ix (1012 + (5 * v1)))) = 1 → ((¬ (I 337 (ix (1012 + (5 * v1)))) = 2 → (wp_X10_comes I8 (I 337 (ix ((1012 + (5 * v1)) + 3))) (I 337 (ix ((1012 + (5 * v1)) + 2))) (fun I11 => (Q I11)))) ∧ ((I 337 (ix (1012 + (5 * v1)))) = 2 → (vp_in (71 + (I 337 (ix ((1012 + (5 * v1)) + 2)))) 2212 ∧ (vp_in (71 + (I 337 (ix ((1012 + (5 * v1)) + 2)))) 2212 ∧ (∀ I14, I14 = u2 I8 337 (ix (71 + (I 337 (ix ((1012 + (5 * v1)) + 2))))) ((I8 337 (ix (71 + (I 337 (ix ((1012 + (5 * v1)) + 2)))))) + 1) → (wp_X10_answers I14 (I 337 (ix ((1012 + (5 * v1)) + 2))) (fun I15 => ((wp_X10_loads I15 (fun I16 => (Q I16)))))))))))) ∧ ((I 337 (ix (1012 + (5 * v1)))) = 1 → (vp_in 17 2212 ∧ (vp_in (2012 + (I8 337 (ix 17))) 2212 ∧ (∀ I19, I19 = u2 I8 337 (ix (2012 + (I8 337 (ix 17)))) (I 337 (ix ((1012 + (5 * v1)) + 2))) → (vp_in 17 2212 ∧ (vp_in 17 2212 ∧ (∀ I22, I22 = u2 I19 337 (ix 17) ((I19 337 (ix 17)) + 1) → (wp_X10_loads I22 (fun I23 => (Q I23)))))))))))))))))))))
set_option maxRecDepth 20000 in
theorem mt_X10_arrives {E : Ev} {l : Launch} {n : Nat} {R : MR} (hn : 349 ≤ n) (hG : GRm R) {I : MI} {L : ML} {v1 : Int32} {Q : MI → Prop} (h : wp_X10_arrives I v1 Q) : MX E l rm_X10_arrives yX10_arrives cX10_arrives 5 none [.ref 336, .int v1] n I L R (Qv n R (V10 I L Q)) := by
  refine MX_of (ls := [(0, .ref 336), (1, .int v1)]) (by decide) (Nat.le_of_ble_eq_true rfl) rfl ?_
  unfold wp_X10_arrives at h
  refine x_aload_n dX10_arrives_0 rfl ?_
  refine x_getr (j := 337) dX10_arrives_1 fk_RX10_7 (km rfl hn) sh_336 (rt_336_1 hG) ?_
  refine x_sipush (v := 1012) dX10_arrives_4 ks_1012 ?_
  refine x_iconst (v := 5) dX10_arrives_7 ki_5 ?_
  refine x_iload_n dX10_arrives_8 rfl ?_
  refine x_imul dX10_arrives_9 ?_
  refine x_iadd dX10_arrives_10 ?_
  obtain ⟨b1, h⟩ := h
  refine x_iaload dX10_arrives_11 (km rfl hn) sh_337 b1 ?_
  refine x_istore_n (ls' := [(2, .int (I 337 (ix (1012 + (5 * v1))))), (0, .ref 336), (1, .int v1)]) dX10_arrives_12 (Nat.le_of_ble_eq_true rfl) rfl ?_
  refine x_aload_n dX10_arrives_13 rfl ?_
  refine x_getr (j := 337) dX10_arrives_14 fk_RX10_7 (km rfl hn) sh_336 (rt_336_1 hG) ?_
  refine x_sipush (v := 1012) dX10_arrives_17 ks_1012 ?_
  refine x_iconst (v := 5) dX10_arrives_20 ki_5 ?_
  refine x_iload_n dX10_arrives_21 rfl ?_
  refine x_imul dX10_arrives_22 ?_
  refine x_iadd dX10_arrives_23 ?_
  refine x_iconst (v := 2) dX10_arrives_24 ki_2 ?_
  refine x_iadd dX10_arrives_25 ?_
  obtain ⟨b2, h⟩ := h
  refine x_iaload dX10_arrives_26 (km rfl hn) sh_337 b2 ?_
  refine x_istore_n (ls' := [(3, .int (I 337 (ix ((1012 + (5 * v1)) + 2)))), (2, .int (I 337 (ix (1012 + (5 * v1))))), (0, .ref 336), (1, .int v1)]) dX10_arrives_27 (Nat.le_of_ble_eq_true rfl) rfl ?_
  refine x_aload_n dX10_arrives_28 rfl ?_
  refine x_getr (j := 337) dX10_arrives_29 fk_RX10_7 (km rfl hn) sh_336 (rt_336_1 hG) ?_
  refine x_sipush (v := 1012) dX10_arrives_32 ks_1012 ?_
  refine x_iconst (v := 5) dX10_arrives_35 ki_5 ?_
  refine x_iload_n dX10_arrives_36 rfl ?_
  refine x_imul dX10_arrives_37 ?_
  refine x_iadd dX10_arrives_38 ?_
  refine x_iconst (v := 3) dX10_arrives_39 ki_3 ?_
  refine x_iadd dX10_arrives_40 ?_
  obtain ⟨b3, h⟩ := h
  refine x_iaload dX10_arrives_41 (km rfl hn) sh_337 b3 ?_
  refine x_istore (ls' := [(4, .int (I 337 (ix ((1012 + (5 * v1)) + 3)))), (3, .int (I 337 (ix ((1012 + (5 * v1)) + 2)))), (2, .int (I 337 (ix (1012 + (5 * v1))))), (0, .ref 336), (1, .int v1)]) dX10_arrives_42 (Nat.le_of_ble_eq_true rfl) rfl ?_
  refine x_aload_n dX10_arrives_44 rfl ?_
  refine x_sipush (v := 1012) dX10_arrives_45 ks_1012 ?_
  refine x_iconst (v := 5) dX10_arrives_48 ki_5 ?_
  refine x_iload_n dX10_arrives_49 rfl ?_
  refine x_aload_n dX10_arrives_50 rfl ?_
  refine x_getr (j := 337) dX10_arrives_51 fk_RX10_7 (km rfl hn) sh_336 (rt_336_1 hG) ?_
  refine x_bipush (v := 16) dX10_arrives_54 kb_16 ?_
  obtain ⟨b4, h⟩ := h
  refine x_iaload dX10_arrives_56 (km rfl hn) sh_337 b4 ?_
  refine x_cVv10 [.int 1012, .int 5, .int v1, .int (I 337 (ix 16))] (mt_X10_closes hn hG h) dX10_arrives_57 lk_RX10_163 (km rfl hn) sh_336 rfl rfl (Nat.le_of_ble_eq_true rfl) (Rf_of rfl) (fun I5 h => ?_)
  refine x_aload_n dX10_arrives_60 rfl ?_
  refine x_getr (j := 337) dX10_arrives_61 fk_RX10_7 (km rfl hn) sh_336 (rt_336_1 hG) ?_
  refine x_bipush (v := 16) dX10_arrives_64 kb_16 ?_
  refine x_dup2 dX10_arrives_66 rfl rfl ?_
  obtain ⟨b6, h⟩ := h
  refine x_iaload dX10_arrives_67 (km rfl hn) sh_337 b6 ?_
  refine x_iconst (v := 1) dX10_arrives_68 ki_1 ?_
  refine x_isub dX10_arrives_69 ?_
  obtain ⟨b7, h⟩ := h
  refine x_iastore dX10_arrives_70 (km rfl hn) sh_337 b7 (fun I8 eI8 => ?_)
  have h := h I8 eI8
  refine x_iload_n dX10_arrives_71 rfl ?_
  refine x_iconst (v := 1) dX10_arrives_72 ki_1 ?_
  refine x_icmp_ne dX10_arrives_73 (tgt := 111) rfl ⟨fun c9 => ?_, fun c9 => ?_⟩
  · have h := h.1 c9
    refine x_iload_n dX10_arrives_111 rfl ?_
    refine x_iconst (v := 2) dX10_arrives_112 ki_2 ?_
    refine x_icmp_ne dX10_arrives_113 (tgt := 141) rfl ⟨fun c10 => ?_, fun c10 => ?_⟩
    · have h := h.1 c10
      refine x_aload_n dX10_arrives_141 rfl ?_
      refine x_iload dX10_arrives_142 rfl ?_
      refine x_iload_n dX10_arrives_144 rfl ?_
      refine x_cVv10 [.int (I 337 (ix ((1012 + (5 * v1)) + 3))), .int (I 337 (ix ((1012 + (5 * v1)) + 2)))] (mt_X10_comes hn hG h) dX10_arrives_145 lk_RX10_181 (km rfl hn) sh_336 rfl rfl (Nat.le_of_ble_eq_true rfl) (Rf_of rfl) (fun I11 h => ?_)
      exact x_return dX10_arrives_148 ⟨rfl, rfl, rfl, rfl, h⟩
    · have h := h.2 c10
      refine x_aload_n dX10_arrives_116 rfl ?_
      refine x_getr (j := 337) dX10_arrives_117 fk_RX10_7 (km rfl hn) sh_336 (rt_336_1 hG) ?_
      refine x_bipush (v := 71) dX10_arrives_120 kb_71 ?_
      refine x_iload_n dX10_arrives_122 rfl ?_
      refine x_iadd dX10_arrives_123 ?_
      refine x_dup2 dX10_arrives_124 rfl rfl ?_
      obtain ⟨b12, h⟩ := h
      refine x_iaload dX10_arrives_125 (km rfl hn) sh_337 b12 ?_
      refine x_iconst (v := 1) dX10_arrives_126 ki_1 ?_
      refine x_iadd dX10_arrives_127 ?_
      obtain ⟨b13, h⟩ := h
      refine x_iastore dX10_arrives_128 (km rfl hn) sh_337 b13 (fun I14 eI14 => ?_)
      have h := h I14 eI14
      refine x_aload_n dX10_arrives_129 rfl ?_
      refine x_iload_n dX10_arrives_130 rfl ?_
      refine x_cVv10 [.int (I 337 (ix ((1012 + (5 * v1)) + 2)))] (mt_X10_answers hn hG h) dX10_arrives_131 lk_RX10_175 (km rfl hn) sh_336 rfl rfl (Nat.le_of_ble_eq_true rfl) (Rf_of rfl) (fun I15 h => ?_)
      refine x_aload_n dX10_arrives_134 rfl ?_
      refine x_cVv10 [] (mt_X10_loads hn hG h) dX10_arrives_135 lk_RX10_178 (km rfl hn) sh_336 rfl rfl (Nat.le_of_ble_eq_true rfl) (Rf_of rfl) (fun I16 h => ?_)
      refine x_goto dX10_arrives_138 (tgt := 148) rfl ?_
      exact x_return dX10_arrives_148 ⟨rfl, rfl, rfl, rfl, h⟩
  · have h := h.2 c9
    refine x_aload_n dX10_arrives_76 rfl ?_
    refine x_getr (j := 337) dX10_arrives_77 fk_RX10_7 (km rfl hn) sh_336 (rt_336_1 hG) ?_
    refine x_sipush (v := 2012) dX10_arrives_80 ks_2012 ?_
    refine x_aload_n dX10_arrives_83 rfl ?_
    refine x_getr (j := 337) dX10_arrives_84 fk_RX10_7 (km rfl hn) sh_336 (rt_336_1 hG) ?_
    refine x_bipush (v := 17) dX10_arrives_87 kb_17 ?_
    obtain ⟨b17, h⟩ := h
    refine x_iaload dX10_arrives_89 (km rfl hn) sh_337 b17 ?_
    refine x_iadd dX10_arrives_90 ?_
    refine x_iload_n dX10_arrives_91 rfl ?_
    obtain ⟨b18, h⟩ := h
    refine x_iastore dX10_arrives_92 (km rfl hn) sh_337 b18 (fun I19 eI19 => ?_)
    have h := h I19 eI19
    refine x_aload_n dX10_arrives_93 rfl ?_
    refine x_getr (j := 337) dX10_arrives_94 fk_RX10_7 (km rfl hn) sh_336 (rt_336_1 hG) ?_
    refine x_bipush (v := 17) dX10_arrives_97 kb_17 ?_
    refine x_dup2 dX10_arrives_99 rfl rfl ?_
    obtain ⟨b20, h⟩ := h
    refine x_iaload dX10_arrives_100 (km rfl hn) sh_337 b20 ?_
    refine x_iconst (v := 1) dX10_arrives_101 ki_1 ?_
    refine x_iadd dX10_arrives_102 ?_
    obtain ⟨b21, h⟩ := h
    refine x_iastore dX10_arrives_103 (km rfl hn) sh_337 b21 (fun I22 eI22 => ?_)
    have h := h I22 eI22
    refine x_aload_n dX10_arrives_104 rfl ?_
    refine x_cVv10 [] (mt_X10_loads hn hG h) dX10_arrives_105 lk_RX10_178 (km rfl hn) sh_336 rfl rfl (Nat.le_of_ble_eq_true rfl) (Rf_of rfl) (fun I23 h => ?_)
    refine x_goto dX10_arrives_108 (tgt := 148) rfl ?_
    exact x_return dX10_arrives_148 ⟨rfl, rfl, rfl, rfl, h⟩
abbrev rm_X10_callsOf : Room := { frames := 0, cells := 0, slots := 0, locals := 0 }
def jn_X10_callsOf_59 (v4 : Int32) (s0 : Int32) (s1 : Int32) (kj5 : Int32 → Int32 → Prop) : Prop :=
    kj5 (s1 + s0) (v4 + 1)
set_option maxRecDepth 20000 in
theorem jnt_X10_callsOf_59 {E : Ev} {l : Launch} {n : Nat} {R : MR} (hn : 349 ≤ n) (hG : GRm R) {Q : Int32 → Prop} {I : MI} {L : ML} {v1 : Int32} {v2 : Int32} {v4 : Int32} {s0 : Int32} {s1 : Int32} {kj5 : Int32 → Int32 → Prop}
    (hJ5 : ∀ (v3 : Int32) (v4 : Int32), kj5 v3 v4 → X E l rm_X10_callsOf yX10_callsOf cX10_callsOf 5 (some .int) noX (ZM E rm_X10_callsOf (Qi n R (P00 I L Q))) 5 [(0, .ref 336), (1, .int v1), (2, .int v2), (3, .int v3), (4, .int v4)] [] n I L R 0 0) (h : jn_X10_callsOf_59 v4 s0 s1 kj5) : X E l rm_X10_callsOf yX10_callsOf cX10_callsOf 5 (some .int) noX (ZM E rm_X10_callsOf (Qi n R (P00 I L Q))) 59 [(0, .ref 336), (1, .int v1), (2, .int v2), (4, .int v4)] [.int s0, .int s1] n I L R 0 0 := by
  unfold jn_X10_callsOf_59 at h
  refine x_iadd dX10_callsOf_59 ?_
  refine x_istore_n (ls' := [(3, .int (s1 + s0)), (0, .ref 336), (1, .int v1), (2, .int v2), (4, .int v4)]) dX10_callsOf_60 (Nat.le_of_ble_eq_true rfl) rfl ?_
  refine x_iinc (v := v4 + 1) (ls' := [(4, .int (v4 + 1)), (3, .int (s1 + s0)), (0, .ref 336), (1, .int v1), (2, .int v2)]) dX10_callsOf_61 rfl (congrArg (_ + ·) ki_1) (Nat.le_of_ble_eq_true rfl) rfl ?_
  refine x_goto dX10_callsOf_64 (tgt := 5) rfl ?_
  refine x_ls (ls' := [(0, .ref 336), (1, .int v1), (2, .int v2), (3, .int (s1 + s0)), (4, .int (v4 + 1))]) [2, 3, 4, 1, 0] rfl ?_
  exact hJ5 (s1 + s0) (v4 + 1) h
def jn_X10_callsOf_58 (v4 : Int32) (s0 : Int32) (kj5 : Int32 → Int32 → Prop) : Prop :=
    (jn_X10_callsOf_59 v4 0 s0 (fun x5 x6 => kj5 x5 x6))
set_option maxRecDepth 20000 in
theorem jnt_X10_callsOf_58 {E : Ev} {l : Launch} {n : Nat} {R : MR} (hn : 349 ≤ n) (hG : GRm R) {Q : Int32 → Prop} {I : MI} {L : ML} {v1 : Int32} {v2 : Int32} {v4 : Int32} {s0 : Int32} {kj5 : Int32 → Int32 → Prop}
    (hJ5 : ∀ (v3 : Int32) (v4 : Int32), kj5 v3 v4 → X E l rm_X10_callsOf yX10_callsOf cX10_callsOf 5 (some .int) noX (ZM E rm_X10_callsOf (Qi n R (P00 I L Q))) 5 [(0, .ref 336), (1, .int v1), (2, .int v2), (3, .int v3), (4, .int v4)] [] n I L R 0 0) (h : jn_X10_callsOf_58 v4 s0 kj5) : X E l rm_X10_callsOf yX10_callsOf cX10_callsOf 5 (some .int) noX (ZM E rm_X10_callsOf (Qi n R (P00 I L Q))) 58 [(0, .ref 336), (1, .int v1), (2, .int v2), (4, .int v4)] [.int s0] n I L R 0 0 := by
  unfold jn_X10_callsOf_58 at h
  refine x_iconst (v := 0) dX10_callsOf_58 ki_0 ?_
  refine jnt_X10_callsOf_59 hn hG (fun x5 x6 h => ?_) h
  exact hJ5 x5 x6 h
def lp_X10_callsOf_5 (I : MI) (v1 : Int32) (v2 : Int32) (Q : Int32 → Prop) : Nat → Int32 → Int32 → Prop
  | 0, _, _ => False
  | n + 1, v3, v4 =>
    (vp_in 15 2212 ∧ (((I 337 (ix 15)) ≤ v4 → Q v3) ∧ (¬ (I 337 (ix 15)) ≤ v4 → (vp_in (412 + (3 * v4)) 2212 ∧ ((¬ (I 337 (ix (412 + (3 * v4)))) = v1 → (jn_X10_callsOf_58 v4 v3 (fun x7 x8 => (lp_X10_callsOf_5 I v1 v2 Q n x7 x8)))) ∧ ((I 337 (ix (412 + (3 * v4)))) = v1 → (vp_in ((412 + (3 * v4)) + 1) 2212 ∧ ((¬ (I 337 (ix ((412 + (3 * v4)) + 1))) = v2 → (jn_X10_callsOf_58 v4 v3 (fun x11 x12 => (lp_X10_callsOf_5 I v1 v2 Q n x11 x12)))) ∧ ((I 337 (ix ((412 + (3 * v4)) + 1))) = v2 → (jn_X10_callsOf_59 v4 1 v3 (fun x13 x14 => (lp_X10_callsOf_5 I v1 v2 Q n x13 x14))))))))))))
set_option maxRecDepth 20000 in
theorem lpt_X10_callsOf_5 {E : Ev} {l : Launch} {n : Nat} {R : MR} (hn : 349 ≤ n) (hG : GRm R) {Q : Int32 → Prop} {v1 : Int32} {v2 : Int32} {I : MI} {L : ML} : ∀ (N : Nat) (v3 : Int32) (v4 : Int32), lp_X10_callsOf_5 I v1 v2 Q N v3 v4 → X E l rm_X10_callsOf yX10_callsOf cX10_callsOf 5 (some .int) noX (ZM E rm_X10_callsOf (Qi n R (P00 I L Q))) 5 [(0, .ref 336), (1, .int v1), (2, .int v2), (3, .int v3), (4, .int v4)] [] n I L R 0 0 := by
  intro N
  induction N with
  | zero => intro v3 v4 h; exact False.elim h
  | succ N ih =>
    intro v3 v4 h
    unfold lp_X10_callsOf_5 at h
    refine x_iload dX10_callsOf_5 rfl ?_
    refine x_aload_n dX10_callsOf_7 rfl ?_
    refine x_getr (j := 337) dX10_callsOf_8 fk_RX10_7 (km rfl hn) sh_336 (rt_336_1 hG) ?_
    refine x_bipush (v := 15) dX10_callsOf_11 kb_15 ?_
    obtain ⟨b1, h⟩ := h
    refine x_iaload dX10_callsOf_13 (km rfl hn) sh_337 b1 ?_
    refine x_icmp_ge dX10_callsOf_14 (tgt := 67) rfl ⟨fun c2 => ?_, fun c2 => ?_⟩
    · have h := h.1 c2
      refine x_iload_n dX10_callsOf_67 rfl ?_
      exact x_ireturn dX10_callsOf_68 ⟨_, rfl, rfl, rfl, rfl, rfl, h⟩
    · have h := h.2 c2
      refine x_iload_n dX10_callsOf_17 rfl ?_
      refine x_aload_n dX10_callsOf_18 rfl ?_
      refine x_getr (j := 337) dX10_callsOf_19 fk_RX10_7 (km rfl hn) sh_336 (rt_336_1 hG) ?_
      refine x_sipush (v := 412) dX10_callsOf_22 ks_412 ?_
      refine x_iconst (v := 3) dX10_callsOf_25 ki_3 ?_
      refine x_iload dX10_callsOf_26 rfl ?_
      refine x_imul dX10_callsOf_28 ?_
      refine x_iadd dX10_callsOf_29 ?_
      obtain ⟨b3, h⟩ := h
      refine x_iaload dX10_callsOf_30 (km rfl hn) sh_337 b3 ?_
      refine x_iload_n dX10_callsOf_31 rfl ?_
      refine x_icmp_ne dX10_callsOf_32 (tgt := 58) rfl ⟨fun c4 => ?_, fun c4 => ?_⟩
      · have h := h.1 c4
        refine x_ls (ls' := [(0, .ref 336), (1, .int v1), (2, .int v2), (4, .int v4)]) [0, 1, 2, 4] rfl ?_
        refine jnt_X10_callsOf_58 hn hG (fun x7 x8 h => ?_) h
        exact ih x7 x8 h
      · have h := h.2 c4
        refine x_aload_n dX10_callsOf_35 rfl ?_
        refine x_getr (j := 337) dX10_callsOf_36 fk_RX10_7 (km rfl hn) sh_336 (rt_336_1 hG) ?_
        refine x_sipush (v := 412) dX10_callsOf_39 ks_412 ?_
        refine x_iconst (v := 3) dX10_callsOf_42 ki_3 ?_
        refine x_iload dX10_callsOf_43 rfl ?_
        refine x_imul dX10_callsOf_45 ?_
        refine x_iadd dX10_callsOf_46 ?_
        refine x_iconst (v := 1) dX10_callsOf_47 ki_1 ?_
        refine x_iadd dX10_callsOf_48 ?_
        obtain ⟨b9, h⟩ := h
        refine x_iaload dX10_callsOf_49 (km rfl hn) sh_337 b9 ?_
        refine x_iload_n dX10_callsOf_50 rfl ?_
        refine x_icmp_ne dX10_callsOf_51 (tgt := 58) rfl ⟨fun c10 => ?_, fun c10 => ?_⟩
        · have h := h.1 c10
          refine x_ls (ls' := [(0, .ref 336), (1, .int v1), (2, .int v2), (4, .int v4)]) [0, 1, 2, 4] rfl ?_
          refine jnt_X10_callsOf_58 hn hG (fun x11 x12 h => ?_) h
          exact ih x11 x12 h
        · have h := h.2 c10
          refine x_iconst (v := 1) dX10_callsOf_54 ki_1 ?_
          refine x_goto dX10_callsOf_55 (tgt := 59) rfl ?_
          refine x_ls (ls' := [(0, .ref 336), (1, .int v1), (2, .int v2), (4, .int v4)]) [0, 1, 2, 4] rfl ?_
          refine jnt_X10_callsOf_59 hn hG (fun x13 x14 h => ?_) h
          exact ih x13 x14 h
def wp_X10_callsOf (I : MI) (v1 : Int32) (v2 : Int32) (Q : Int32 → Prop) : Prop :=
    (∃ N15, lp_X10_callsOf_5 I v1 v2 Q N15 0 0)
set_option maxRecDepth 20000 in
theorem mt_X10_callsOf {E : Ev} {l : Launch} {n : Nat} {R : MR} (hn : 349 ≤ n) (hG : GRm R) {I : MI} {L : ML} {v1 : Int32} {v2 : Int32} {Q : Int32 → Prop} (h : wp_X10_callsOf I v1 v2 Q) : MX E l rm_X10_callsOf yX10_callsOf cX10_callsOf 5 (some .int) [.ref 336, .int v1, .int v2] n I L R (Qi n R (P00 I L Q)) := by
  refine MX_of (ls := [(0, .ref 336), (1, .int v1), (2, .int v2)]) (by decide) (Nat.le_of_ble_eq_true rfl) rfl ?_
  unfold wp_X10_callsOf at h
  refine x_iconst (v := 0) dX10_callsOf_0 ki_0 ?_
  refine x_istore_n (ls' := [(3, .int 0), (0, .ref 336), (1, .int v1), (2, .int v2)]) dX10_callsOf_1 (Nat.le_of_ble_eq_true rfl) rfl ?_
  refine x_iconst (v := 0) dX10_callsOf_2 ki_0 ?_
  refine x_istore (ls' := [(4, .int 0), (3, .int 0), (0, .ref 336), (1, .int v1), (2, .int v2)]) dX10_callsOf_3 (Nat.le_of_ble_eq_true rfl) rfl ?_
  refine x_ls (ls' := [(0, .ref 336), (1, .int v1), (2, .int v2), (3, .int 0), (4, .int 0)]) [2, 3, 4, 1, 0] rfl ?_
  obtain ⟨N15, h⟩ := h
  exact lpt_X10_callsOf_5 hn hG  N15 0 0 h
abbrev rm_X10_remembers : Room := { frames := 0, cells := 0, slots := 0, locals := 0 }
def lp_X10_remembers_52 (kf86 : MI → Prop) : Nat → Int32 → MI → Prop
  | 0, _, _ => False
  | n + 1, v1, I =>
    ((2212 ≤ v1 → kf86 I) ∧ (¬ 2212 ≤ v1 → (vp_in v1 2212 ∧ (vp_in ((2212 * (I 336 4)) + v1) 26544 ∧ (∀ I5, I5 = u2 I 339 (ix ((2212 * (I 336 4)) + v1)) (I 337 (ix v1)) → (lp_X10_remembers_52 kf86 n (v1 + 1) I5))))))
set_option maxRecDepth 20000 in
theorem lpt_X10_remembers_52 {E : Ev} {l : Launch} {n : Nat} {R : MR} (hn : 349 ≤ n) (hG : GRm R) {I0 : MI} {Q : MI → Prop} {L : ML} {kf86 : MI → Prop}
    (hK86 : ∀ (I : MI), kf86 I → X E l rm_X10_remembers yX10_remembers cX10_remembers 2 none noX (ZM E rm_X10_remembers (Qv n R (V10 I0 L Q))) 86 [(0, .ref 336)] [] n I L R 0 0) : ∀ (N : Nat) (v1 : Int32) (I : MI), lp_X10_remembers_52 kf86 N v1 I → X E l rm_X10_remembers yX10_remembers cX10_remembers 2 none noX (ZM E rm_X10_remembers (Qv n R (V10 I0 L Q))) 52 [(0, .ref 336), (1, .int v1)] [] n I L R 0 0 := by
  intro N
  induction N with
  | zero => intro v1 I h; exact False.elim h
  | succ N ih =>
    intro v1 I h
    unfold lp_X10_remembers_52 at h
    refine x_iload_n dX10_remembers_52 rfl ?_
    refine x_sipush (v := 2212) dX10_remembers_53 ks_2212 ?_
    refine x_icmp_ge dX10_remembers_56 (tgt := 86) rfl ⟨fun c2 => ?_, fun c2 => ?_⟩
    · have h := h.1 c2
      refine x_ls (ls' := [(0, .ref 336)]) [0] rfl ?_
      exact hK86 I h
    · have h := h.2 c2
      refine x_aload_n dX10_remembers_59 rfl ?_
      refine x_getr (j := 339) dX10_remembers_60 fk_RX10_16 (km rfl hn) sh_336 (rt_336_3 hG) ?_
      refine x_sipush (v := 2212) dX10_remembers_63 ks_2212 ?_
      refine x_aload_n dX10_remembers_66 rfl ?_
      refine x_geti dX10_remembers_67 fk_RX10_153 (km rfl hn) sh_336 ?_
      refine x_imul dX10_remembers_70 ?_
      refine x_iload_n dX10_remembers_71 rfl ?_
      refine x_iadd dX10_remembers_72 ?_
      refine x_aload_n dX10_remembers_73 rfl ?_
      refine x_getr (j := 337) dX10_remembers_74 fk_RX10_7 (km rfl hn) sh_336 (rt_336_1 hG) ?_
      refine x_iload_n dX10_remembers_77 rfl ?_
      obtain ⟨b3, h⟩ := h
      refine x_iaload dX10_remembers_78 (km rfl hn) sh_337 b3 ?_
      obtain ⟨b4, h⟩ := h
      refine x_iastore dX10_remembers_79 (km rfl hn) sh_339 b4 (fun I5 eI5 => ?_)
      have h := h I5 eI5
      refine x_iinc (v := v1 + 1) (ls' := [(1, .int (v1 + 1)), (0, .ref 336)]) dX10_remembers_80 rfl (congrArg (_ + ·) ki_1) (Nat.le_of_ble_eq_true rfl) rfl ?_
      refine x_goto dX10_remembers_83 (tgt := 52) rfl ?_
      refine x_ls (ls' := [(0, .ref 336), (1, .int (v1 + 1))]) [1, 0] rfl ?_
      exact ih (v1 + 1) I5 h
def jn_X10_remembers_50 (I : MI) (Q : MI → Prop) : Prop :=
    (∃ N6, lp_X10_remembers_52 (fun I7 => (∀ I8, I8 = u2 I7 336 4 ((I7 336 4) + 1) → Q I8)) N6 0 I)
set_option maxRecDepth 20000 in
theorem jnt_X10_remembers_50 {E : Ev} {l : Launch} {n : Nat} {R : MR} (hn : 349 ≤ n) (hG : GRm R) {I0 : MI} {Q : MI → Prop} {I : MI} {L : ML} (h : jn_X10_remembers_50 I Q) : X E l rm_X10_remembers yX10_remembers cX10_remembers 2 none noX (ZM E rm_X10_remembers (Qv n R (V10 I0 L Q))) 50 [(0, .ref 336)] [] n I L R 0 0 := by
  unfold jn_X10_remembers_50 at h
  refine x_iconst (v := 0) dX10_remembers_50 ki_0 ?_
  refine x_istore_n (ls' := [(1, .int 0), (0, .ref 336)]) dX10_remembers_51 (Nat.le_of_ble_eq_true rfl) rfl ?_
  refine x_ls (ls' := [(0, .ref 336), (1, .int 0)]) [1, 0] rfl ?_
  obtain ⟨N6, h⟩ := h
  refine lpt_X10_remembers_52 hn hG (fun I7 h => ?_) N6 0 I h
  refine x_aload_n dX10_remembers_86 rfl ?_
  refine x_dup dX10_remembers_87 rfl ?_
  refine x_geti dX10_remembers_88 fk_RX10_153 (km rfl hn) sh_336 ?_
  refine x_iconst (v := 1) dX10_remembers_91 ki_1 ?_
  refine x_iadd dX10_remembers_92 ?_
  refine x_puti dX10_remembers_93 fk_RX10_153 fw_8_4 (vp_nar_int _) rfl (km rfl hn) sh_336 (fun I8 eI8 => ?_)
  have h := h I8 eI8
  exact x_return dX10_remembers_96 ⟨rfl, rfl, rfl, rfl, h⟩
def lp_X10_remembers_11 (kf40 : MI → Prop) : Nat → Int32 → MI → Prop
  | 0, _, _ => False
  | n + 1, v1, I =>
    ((24332 ≤ v1 → kf40 I) ∧ (¬ 24332 ≤ v1 → (vp_in (v1 + 2212) 26544 ∧ (vp_in v1 26544 ∧ (∀ I12, I12 = u2 I 339 (ix v1) (I 339 (ix (v1 + 2212))) → (lp_X10_remembers_11 kf40 n (v1 + 1) I12))))))
set_option maxRecDepth 20000 in
theorem lpt_X10_remembers_11 {E : Ev} {l : Launch} {n : Nat} {R : MR} (hn : 349 ≤ n) (hG : GRm R) {I0 : MI} {Q : MI → Prop} {L : ML} {kf40 : MI → Prop}
    (hK40 : ∀ (I : MI), kf40 I → X E l rm_X10_remembers yX10_remembers cX10_remembers 2 none noX (ZM E rm_X10_remembers (Qv n R (V10 I0 L Q))) 40 [(0, .ref 336)] [] n I L R 0 0) : ∀ (N : Nat) (v1 : Int32) (I : MI), lp_X10_remembers_11 kf40 N v1 I → X E l rm_X10_remembers yX10_remembers cX10_remembers 2 none noX (ZM E rm_X10_remembers (Qv n R (V10 I0 L Q))) 11 [(0, .ref 336), (1, .int v1)] [] n I L R 0 0 := by
  intro N
  induction N with
  | zero => intro v1 I h; exact False.elim h
  | succ N ih =>
    intro v1 I h
    unfold lp_X10_remembers_11 at h
    refine x_iload_n dX10_remembers_11 rfl ?_
    refine x_sipush (v := 24332) dX10_remembers_12 ks_24332 ?_
    refine x_icmp_ge dX10_remembers_15 (tgt := 40) rfl ⟨fun c9 => ?_, fun c9 => ?_⟩
    · have h := h.1 c9
      refine x_ls (ls' := [(0, .ref 336)]) [0] rfl ?_
      exact hK40 I h
    · have h := h.2 c9
      refine x_aload_n dX10_remembers_18 rfl ?_
      refine x_getr (j := 339) dX10_remembers_19 fk_RX10_16 (km rfl hn) sh_336 (rt_336_3 hG) ?_
      refine x_iload_n dX10_remembers_22 rfl ?_
      refine x_aload_n dX10_remembers_23 rfl ?_
      refine x_getr (j := 339) dX10_remembers_24 fk_RX10_16 (km rfl hn) sh_336 (rt_336_3 hG) ?_
      refine x_iload_n dX10_remembers_27 rfl ?_
      refine x_sipush (v := 2212) dX10_remembers_28 ks_2212 ?_
      refine x_iadd dX10_remembers_31 ?_
      obtain ⟨b10, h⟩ := h
      refine x_iaload dX10_remembers_32 (km rfl hn) sh_339 b10 ?_
      obtain ⟨b11, h⟩ := h
      refine x_iastore dX10_remembers_33 (km rfl hn) sh_339 b11 (fun I12 eI12 => ?_)
      have h := h I12 eI12
      refine x_iinc (v := v1 + 1) (ls' := [(1, .int (v1 + 1)), (0, .ref 336)]) dX10_remembers_34 rfl (congrArg (_ + ·) ki_1) (Nat.le_of_ble_eq_true rfl) rfl ?_
      refine x_goto dX10_remembers_37 (tgt := 11) rfl ?_
      refine x_ls (ls' := [(0, .ref 336), (1, .int (v1 + 1))]) [1, 0] rfl ?_
      exact ih (v1 + 1) I12 h
def wp_X10_remembers (I : MI) (Q : MI → Prop) : Prop :=
    ((¬ (I 336 4) = 12 → (jn_X10_remembers_50 I Q)) ∧ ((I 336 4) = 12 → (∃ N13, lp_X10_remembers_11 (fun I14 => (∀ I15, I15 = u2 I14 336 4 ((I14 336 4) - 1) → (jn_X10_remembers_50 I15 Q))) N13 0 I)))
set_option maxRecDepth 20000 in
theorem mt_X10_remembers {E : Ev} {l : Launch} {n : Nat} {R : MR} (hn : 349 ≤ n) (hG : GRm R) {I : MI} {L : ML} {Q : MI → Prop} (h : wp_X10_remembers I Q) : MX E l rm_X10_remembers yX10_remembers cX10_remembers 2 none [.ref 336] n I L R (Qv n R (V10 I L Q)) := by
  refine MX_of (ls := [(0, .ref 336)]) (by decide) (Nat.le_of_ble_eq_true rfl) rfl ?_
  unfold wp_X10_remembers at h
  refine x_aload_n dX10_remembers_0 rfl ?_
  refine x_geti dX10_remembers_1 fk_RX10_153 (km rfl hn) sh_336 ?_
  refine x_bipush (v := 12) dX10_remembers_4 kb_12 ?_
  refine x_icmp_ne dX10_remembers_6 (tgt := 50) rfl ⟨fun c1 => ?_, fun c1 => ?_⟩
  · have h := h.1 c1
    exact jnt_X10_remembers_50 hn hG  h
  · have h := h.2 c1
    refine x_iconst (v := 0) dX10_remembers_9 ki_0 ?_
    refine x_istore_n (ls' := [(1, .int 0), (0, .ref 336)]) dX10_remembers_10 (Nat.le_of_ble_eq_true rfl) rfl ?_
    refine x_ls (ls' := [(0, .ref 336), (1, .int 0)]) [1, 0] rfl ?_
    obtain ⟨N13, h⟩ := h
    refine lpt_X10_remembers_11 hn hG (fun I14 h => ?_) N13 0 I h
    refine x_aload_n dX10_remembers_40 rfl ?_
    refine x_dup dX10_remembers_41 rfl ?_
    refine x_geti dX10_remembers_42 fk_RX10_153 (km rfl hn) sh_336 ?_
    refine x_iconst (v := 1) dX10_remembers_45 ki_1 ?_
    refine x_isub dX10_remembers_46 ?_
    refine x_puti dX10_remembers_47 fk_RX10_153 fw_8_4 (vp_nar_int _) rfl (km rfl hn) sh_336 (fun I15 eI15 => ?_)
    have h := h I15 eI15
    exact jnt_X10_remembers_50 hn hG  h
abbrev rm_X10_begin : Room := { frames := 1, cells := 0, slots := 0, locals := 21 }
def wp_X10_begin (I : MI) (Q : Int32 → MI → Prop) : Prop :=
    (wp_X10_remembers I (fun I1 => ((vp_in 5 2212 ∧ (wp_X10_starts I1 (fun I3 => (Q (I1 337 (ix 5)) I3)))))))
set_option maxRecDepth 20000 in
theorem mt_X10_begin {E : Ev} {l : Launch} {n : Nat} {R : MR} (hn : 349 ≤ n) (hG : GRm R) {I : MI} {L : ML} {Q : Int32 → MI → Prop} (h : wp_X10_begin I Q) : MX E l rm_X10_begin yX10_begin cX10_begin 2 (some .int) [.ref 336] n I L R (Qi n R (P10 I L Q)) := by
  refine MX_of (ls := [(0, .ref 336)]) (by decide) (Nat.le_of_ble_eq_true rfl) rfl ?_
  unfold wp_X10_begin at h
  refine x_aload_n dX10_begin_0 rfl ?_
  refine x_cVv10 [] (mt_X10_remembers hn hG h) dX10_begin_1 lk_RX10_214 (km rfl hn) sh_336 rfl rfl (Nat.le_of_ble_eq_true rfl) (Rf_of rfl) (fun I1 h => ?_)
  refine x_aload_n dX10_begin_4 rfl ?_
  refine x_getr (j := 337) dX10_begin_5 fk_RX10_7 (km rfl hn) sh_336 (rt_336_1 hG) ?_
  refine x_iconst (v := 5) dX10_begin_8 ki_5 ?_
  obtain ⟨b2, h⟩ := h
  refine x_iaload dX10_begin_9 (km rfl hn) sh_337 b2 ?_
  refine x_istore_n (ls' := [(1, .int (I1 337 (ix 5))), (0, .ref 336)]) dX10_begin_10 (Nat.le_of_ble_eq_true rfl) rfl ?_
  refine x_aload_n dX10_begin_11 rfl ?_
  refine x_cVv10 [] (mt_X10_starts hn hG h) dX10_begin_12 lk_RX10_150 (km rfl hn) sh_336 rfl rfl (Nat.le_of_ble_eq_true rfl) (Rf_of rfl) (fun I3 h => ?_)
  refine x_iload_n dX10_begin_15 rfl ?_
  exact x_ireturn dX10_begin_16 ⟨_, rfl, rfl, rfl, rfl, h⟩
abbrev rm_X10_puts : Room := { frames := 1, cells := 0, slots := 0, locals := 21 }
def wp_X10_puts (I : MI) (v1 : Int32) (v2 : Int32) (Q : Int32 → MI → Prop) : Prop :=
    (wp_X10_remembers I (fun I1 => ((vp_in v1 2212 ∧ (vp_in v1 2212 ∧ (∀ I4, I4 = u2 I1 337 (ix v1) v2 → Q (I1 337 (ix v1)) I4))))))
set_option maxRecDepth 20000 in
theorem mt_X10_puts {E : Ev} {l : Launch} {n : Nat} {R : MR} (hn : 349 ≤ n) (hG : GRm R) {I : MI} {L : ML} {v1 : Int32} {v2 : Int32} {Q : Int32 → MI → Prop} (h : wp_X10_puts I v1 v2 Q) : MX E l rm_X10_puts yX10_puts cX10_puts 4 (some .int) [.ref 336, .int v1, .int v2] n I L R (Qi n R (P10 I L Q)) := by
  refine MX_of (ls := [(0, .ref 336), (1, .int v1), (2, .int v2)]) (by decide) (Nat.le_of_ble_eq_true rfl) rfl ?_
  unfold wp_X10_puts at h
  refine x_aload_n dX10_puts_0 rfl ?_
  refine x_cVv10 [] (mt_X10_remembers hn hG h) dX10_puts_1 lk_RX10_214 (km rfl hn) sh_336 rfl rfl (Nat.le_of_ble_eq_true rfl) (Rf_of rfl) (fun I1 h => ?_)
  refine x_aload_n dX10_puts_4 rfl ?_
  refine x_getr (j := 337) dX10_puts_5 fk_RX10_7 (km rfl hn) sh_336 (rt_336_1 hG) ?_
  refine x_iload_n dX10_puts_8 rfl ?_
  obtain ⟨b2, h⟩ := h
  refine x_iaload dX10_puts_9 (km rfl hn) sh_337 b2 ?_
  refine x_istore_n (ls' := [(3, .int (I1 337 (ix v1))), (0, .ref 336), (1, .int v1), (2, .int v2)]) dX10_puts_10 (Nat.le_of_ble_eq_true rfl) rfl ?_
  refine x_aload_n dX10_puts_11 rfl ?_
  refine x_getr (j := 337) dX10_puts_12 fk_RX10_7 (km rfl hn) sh_336 (rt_336_1 hG) ?_
  refine x_iload_n dX10_puts_15 rfl ?_
  refine x_iload_n dX10_puts_16 rfl ?_
  obtain ⟨b3, h⟩ := h
  refine x_iastore dX10_puts_17 (km rfl hn) sh_337 b3 (fun I4 eI4 => ?_)
  have h := h I4 eI4
  refine x_iload_n dX10_puts_18 rfl ?_
  exact x_ireturn dX10_puts_19 ⟨_, rfl, rfl, rfl, rfl, h⟩
abbrev rm_X10_benches : Room := { frames := 2, cells := 0, slots := 0, locals := 47 }
def wp_X10_benches (I : MI) (v1 : Int32) (Q : Int32 → MI → Prop) : Prop :=
    (wp_X10_isIn v1 1 3 (fun x1 => (((x1 = 0 → Q (-1) I) ∧ (¬ x1 = 0 → (vp_in 2 2212 ∧ ((¬ (I 337 (ix 2)) = v1 → (wp_X10_puts I 2 v1 (fun x5 I6 => ((wp_X10_loads I6 (fun I7 => (Q x5 I7))))))) ∧ ((I 337 (ix 2)) = v1 → Q (-1) I))))))))
set_option maxRecDepth 20000 in
theorem mt_X10_benches {E : Ev} {l : Launch} {n : Nat} {R : MR} (hn : 349 ≤ n) (hG : GRm R) {I : MI} {L : ML} {v1 : Int32} {Q : Int32 → MI → Prop} (h : wp_X10_benches I v1 Q) : MX E l rm_X10_benches yX10_benches cX10_benches 3 (some .int) [.ref 336, .int v1] n I L R (Qi n R (P10 I L Q)) := by
  refine MX_of (ls := [(0, .ref 336), (1, .int v1)]) (by decide) (Nat.le_of_ble_eq_true rfl) rfl ?_
  unfold wp_X10_benches at h
  refine x_iload_n dX10_benches_0 rfl ?_
  refine x_iconst (v := 1) dX10_benches_1 ki_1 ?_
  refine x_iconst (v := 3) dX10_benches_2 ki_3 ?_
  refine x_cSi00 [.int v1, .int 1, .int 3] (mt_X10_isIn hn hG h) dX10_benches_3 lk_RX10_51 rfl rfl (Nat.le_of_ble_eq_true rfl) (Rf_of rfl) (fun x1 h => ?_)
  refine x_if_eq dX10_benches_6 (tgt := 19) rfl ⟨fun c2 => ?_, fun c2 => ?_⟩
  · have h := h.1 c2
    refine x_iconst (v := (-1)) dX10_benches_19 ki_m1 ?_
    exact x_ireturn dX10_benches_20 ⟨_, rfl, rfl, rfl, rfl, h⟩
  · have h := h.2 c2
    refine x_aload_n dX10_benches_9 rfl ?_
    refine x_getr (j := 337) dX10_benches_10 fk_RX10_7 (km rfl hn) sh_336 (rt_336_1 hG) ?_
    refine x_iconst (v := 2) dX10_benches_13 ki_2 ?_
    obtain ⟨b3, h⟩ := h
    refine x_iaload dX10_benches_14 (km rfl hn) sh_337 b3 ?_
    refine x_iload_n dX10_benches_15 rfl ?_
    refine x_icmp_ne dX10_benches_16 (tgt := 21) rfl ⟨fun c4 => ?_, fun c4 => ?_⟩
    · have h := h.1 c4
      refine x_aload_n dX10_benches_21 rfl ?_
      refine x_iconst (v := 2) dX10_benches_22 ki_2 ?_
      refine x_iload_n dX10_benches_23 rfl ?_
      refine x_cVi10 [.int 2, .int v1] (mt_X10_puts hn hG h) dX10_benches_24 lk_RX10_223 (km rfl hn) sh_336 rfl rfl (Nat.le_of_ble_eq_true rfl) (Rf_of rfl) (fun x5 I6 h => ?_)
      refine x_istore_n (ls' := [(2, .int x5), (0, .ref 336), (1, .int v1)]) dX10_benches_27 (Nat.le_of_ble_eq_true rfl) rfl ?_
      refine x_aload_n dX10_benches_28 rfl ?_
      refine x_cVv10 [] (mt_X10_loads hn hG h) dX10_benches_29 lk_RX10_178 (km rfl hn) sh_336 rfl rfl (Nat.le_of_ble_eq_true rfl) (Rf_of rfl) (fun I7 h => ?_)
      refine x_iload_n dX10_benches_32 rfl ?_
      exact x_ireturn dX10_benches_33 ⟨_, rfl, rfl, rfl, rfl, h⟩
    · have h := h.2 c4
      refine x_iconst (v := (-1)) dX10_benches_19 ki_m1 ?_
      exact x_ireturn dX10_benches_20 ⟨_, rfl, rfl, rfl, rfl, h⟩
abbrev rm_X10_breaksOne : Room := { frames := 3, cells := 0, slots := 0, locals := 73 }
def jn_X10_breaksOne_137 (I : MI) (v1 : Int32) (v2 : Int32) (Q : Int32 → MI → Prop) : Prop :=
    (vp_in (23 + v2) 2212 ∧ (((I 337 (ix (23 + v2))) ≤ 0 → (vp_in (29 + v1) 2212 ∧ (wp_X10_begins I 1 v2 v1 (I 337 (ix (29 + v1))) (fun x26 I27 => ((vp_in 15 2212 ∧ (vp_in (412 + (3 * (I27 337 (ix 15)))) 2212 ∧ (∀ I30, I30 = u2 I27 337 (ix (412 + (3 * (I27 337 (ix 15))))) v1 → (vp_in ((412 + (3 * (I27 337 (ix 15)))) + 1) 2212 ∧ (∀ I32, I32 = u2 I30 337 (ix ((412 + (3 * (I27 337 (ix 15)))) + 1)) v2 → (vp_in 5 2212 ∧ (vp_in ((412 + (3 * (I27 337 (ix 15)))) + 2) 2212 ∧ (∀ I35, I35 = u2 I32 337 (ix ((412 + (3 * (I27 337 (ix 15)))) + 2)) (I32 337 (ix 5)) → (vp_in 15 2212 ∧ (vp_in 15 2212 ∧ (∀ I38, I38 = u2 I35 337 (ix 15) ((I35 337 (ix 15)) + 1) → (wp_X10_answers I38 v2 (fun I39 => (Q x26 I39))))))))))))))))))) ∧ (¬ (I 337 (ix (23 + v2))) ≤ 0 → (vp_in (23 + v2) 2212 ∧ (wp_X10_begins I 0 v2 v1 (I 337 (ix (23 + v2))) (fun x41 I42 => (Q x41 I42)))))))
set_option maxRecDepth 20000 in
theorem jnt_X10_breaksOne_137 {E : Ev} {l : Launch} {n : Nat} {R : MR} (hn : 349 ≤ n) (hG : GRm R) {I0 : MI} {Q : Int32 → MI → Prop} {I : MI} {L : ML} {v1 : Int32} {v2 : Int32} (h : jn_X10_breaksOne_137 I v1 v2 Q) : X E l rm_X10_breaksOne yX10_breaksOne cX10_breaksOne 6 (some .int) noX (ZM E rm_X10_breaksOne (Qi n R (P10 I0 L Q))) 137 [(0, .ref 336), (1, .int v1), (2, .int v2)] [] n I L R 0 0 := by
  unfold jn_X10_breaksOne_137 at h
  refine x_aload_n dX10_breaksOne_137 rfl ?_
  refine x_getr (j := 337) dX10_breaksOne_138 fk_RX10_7 (km rfl hn) sh_336 (rt_336_1 hG) ?_
  refine x_bipush (v := 23) dX10_breaksOne_141 kb_23 ?_
  refine x_iload_n dX10_breaksOne_143 rfl ?_
  refine x_iadd dX10_breaksOne_144 ?_
  obtain ⟨b23, h⟩ := h
  refine x_iaload dX10_breaksOne_145 (km rfl hn) sh_337 b23 ?_
  refine x_if_le dX10_breaksOne_146 (tgt := 166) rfl ⟨fun c24 => ?_, fun c24 => ?_⟩
  · have h := h.1 c24
    refine x_aload_n dX10_breaksOne_166 rfl ?_
    refine x_iconst (v := 1) dX10_breaksOne_167 ki_1 ?_
    refine x_iload_n dX10_breaksOne_168 rfl ?_
    refine x_iload_n dX10_breaksOne_169 rfl ?_
    refine x_aload_n dX10_breaksOne_170 rfl ?_
    refine x_getr (j := 337) dX10_breaksOne_171 fk_RX10_7 (km rfl hn) sh_336 (rt_336_1 hG) ?_
    refine x_bipush (v := 29) dX10_breaksOne_174 kb_29 ?_
    refine x_iload_n dX10_breaksOne_176 rfl ?_
    refine x_iadd dX10_breaksOne_177 ?_
    obtain ⟨b25, h⟩ := h
    refine x_iaload dX10_breaksOne_178 (km rfl hn) sh_337 b25 ?_
    refine x_cVi10 [.int 1, .int v2, .int v1, .int (I 337 (ix (29 + v1)))] (mt_X10_begins hn hG h) dX10_breaksOne_179 lk_RX10_167 (km rfl hn) sh_336 rfl rfl (Nat.le_of_ble_eq_true rfl) (Rf_of rfl) (fun x26 I27 h => ?_)
    refine x_istore (ls' := [(4, .int x26), (0, .ref 336), (1, .int v1), (2, .int v2)]) dX10_breaksOne_182 (Nat.le_of_ble_eq_true rfl) rfl ?_
    refine x_sipush (v := 412) dX10_breaksOne_184 ks_412 ?_
    refine x_iconst (v := 3) dX10_breaksOne_187 ki_3 ?_
    refine x_aload_n dX10_breaksOne_188 rfl ?_
    refine x_getr (j := 337) dX10_breaksOne_189 fk_RX10_7 (km rfl hn) sh_336 (rt_336_1 hG) ?_
    refine x_bipush (v := 15) dX10_breaksOne_192 kb_15 ?_
    obtain ⟨b28, h⟩ := h
    refine x_iaload dX10_breaksOne_194 (km rfl hn) sh_337 b28 ?_
    refine x_imul dX10_breaksOne_195 ?_
    refine x_iadd dX10_breaksOne_196 ?_
    refine x_istore (ls' := [(5, .int (412 + (3 * (I27 337 (ix 15))))), (4, .int x26), (0, .ref 336), (1, .int v1), (2, .int v2)]) dX10_breaksOne_197 (Nat.le_of_ble_eq_true rfl) rfl ?_
    refine x_aload_n dX10_breaksOne_199 rfl ?_
    refine x_getr (j := 337) dX10_breaksOne_200 fk_RX10_7 (km rfl hn) sh_336 (rt_336_1 hG) ?_
    refine x_iload dX10_breaksOne_203 rfl ?_
    refine x_iload_n dX10_breaksOne_205 rfl ?_
    obtain ⟨b29, h⟩ := h
    refine x_iastore dX10_breaksOne_206 (km rfl hn) sh_337 b29 (fun I30 eI30 => ?_)
    have h := h I30 eI30
    refine x_aload_n dX10_breaksOne_207 rfl ?_
    refine x_getr (j := 337) dX10_breaksOne_208 fk_RX10_7 (km rfl hn) sh_336 (rt_336_1 hG) ?_
    refine x_iload dX10_breaksOne_211 rfl ?_
    refine x_iconst (v := 1) dX10_breaksOne_213 ki_1 ?_
    refine x_iadd dX10_breaksOne_214 ?_
    refine x_iload_n dX10_breaksOne_215 rfl ?_
    obtain ⟨b31, h⟩ := h
    refine x_iastore dX10_breaksOne_216 (km rfl hn) sh_337 b31 (fun I32 eI32 => ?_)
    have h := h I32 eI32
    refine x_aload_n dX10_breaksOne_217 rfl ?_
    refine x_getr (j := 337) dX10_breaksOne_218 fk_RX10_7 (km rfl hn) sh_336 (rt_336_1 hG) ?_
    refine x_iload dX10_breaksOne_221 rfl ?_
    refine x_iconst (v := 2) dX10_breaksOne_223 ki_2 ?_
    refine x_iadd dX10_breaksOne_224 ?_
    refine x_aload_n dX10_breaksOne_225 rfl ?_
    refine x_getr (j := 337) dX10_breaksOne_226 fk_RX10_7 (km rfl hn) sh_336 (rt_336_1 hG) ?_
    refine x_iconst (v := 5) dX10_breaksOne_229 ki_5 ?_
    obtain ⟨b33, h⟩ := h
    refine x_iaload dX10_breaksOne_230 (km rfl hn) sh_337 b33 ?_
    obtain ⟨b34, h⟩ := h
    refine x_iastore dX10_breaksOne_231 (km rfl hn) sh_337 b34 (fun I35 eI35 => ?_)
    have h := h I35 eI35
    refine x_aload_n dX10_breaksOne_232 rfl ?_
    refine x_getr (j := 337) dX10_breaksOne_233 fk_RX10_7 (km rfl hn) sh_336 (rt_336_1 hG) ?_
    refine x_bipush (v := 15) dX10_breaksOne_236 kb_15 ?_
    refine x_dup2 dX10_breaksOne_238 rfl rfl ?_
    obtain ⟨b36, h⟩ := h
    refine x_iaload dX10_breaksOne_239 (km rfl hn) sh_337 b36 ?_
    refine x_iconst (v := 1) dX10_breaksOne_240 ki_1 ?_
    refine x_iadd dX10_breaksOne_241 ?_
    obtain ⟨b37, h⟩ := h
    refine x_iastore dX10_breaksOne_242 (km rfl hn) sh_337 b37 (fun I38 eI38 => ?_)
    have h := h I38 eI38
    refine x_aload_n dX10_breaksOne_243 rfl ?_
    refine x_iload_n dX10_breaksOne_244 rfl ?_
    refine x_cVv10 [.int v2] (mt_X10_answers hn hG h) dX10_breaksOne_245 lk_RX10_175 (km rfl hn) sh_336 rfl rfl (Nat.le_of_ble_eq_true rfl) (Rf_of rfl) (fun I39 h => ?_)
    refine x_iload dX10_breaksOne_248 rfl ?_
    exact x_ireturn dX10_breaksOne_250 ⟨_, rfl, rfl, rfl, rfl, h⟩
  · have h := h.2 c24
    refine x_aload_n dX10_breaksOne_149 rfl ?_
    refine x_iconst (v := 0) dX10_breaksOne_150 ki_0 ?_
    refine x_iload_n dX10_breaksOne_151 rfl ?_
    refine x_iload_n dX10_breaksOne_152 rfl ?_
    refine x_aload_n dX10_breaksOne_153 rfl ?_
    refine x_getr (j := 337) dX10_breaksOne_154 fk_RX10_7 (km rfl hn) sh_336 (rt_336_1 hG) ?_
    refine x_bipush (v := 23) dX10_breaksOne_157 kb_23 ?_
    refine x_iload_n dX10_breaksOne_159 rfl ?_
    refine x_iadd dX10_breaksOne_160 ?_
    obtain ⟨b40, h⟩ := h
    refine x_iaload dX10_breaksOne_161 (km rfl hn) sh_337 b40 ?_
    refine x_cVi10 [.int 0, .int v2, .int v1, .int (I 337 (ix (23 + v2)))] (mt_X10_begins hn hG h) dX10_breaksOne_162 lk_RX10_167 (km rfl hn) sh_336 rfl rfl (Nat.le_of_ble_eq_true rfl) (Rf_of rfl) (fun x41 I42 h => ?_)
    exact x_ireturn dX10_breaksOne_165 ⟨_, rfl, rfl, rfl, rfl, h⟩
def wp_X10_breaksOne (I : MI) (v1 : Int32) (v2 : Int32) (Q : Int32 → MI → Prop) : Prop :=
    (wp_X10_cellOf v1 v2 (fun x1 => ((vp_in 6 2212 ∧ (vp_in 6 2212 ∧ (∀ I4, I4 = u2 I 337 (ix 6) ((I 337 (ix 6)) + 1) → (vp_in (62 + x1) 2212 ∧ (((I4 337 (ix (62 + x1))) ≤ 0 → (vp_in 14 2212 ∧ (vp_in (92 + (4 * (I4 337 (ix 14)))) 2212 ∧ (∀ I9, I9 = u2 I4 337 (ix (92 + (4 * (I4 337 (ix 14))))) v1 → (vp_in ((92 + (4 * (I4 337 (ix 14)))) + 1) 2212 ∧ (∀ I11, I11 = u2 I9 337 (ix ((92 + (4 * (I4 337 (ix 14)))) + 1)) v2 → (vp_in 5 2212 ∧ (vp_in ((92 + (4 * (I4 337 (ix 14)))) + 2) 2212 ∧ (∀ I14, I14 = u2 I11 337 (ix ((92 + (4 * (I4 337 (ix 14)))) + 2)) (I11 337 (ix 5)) → (vp_in ((92 + (4 * (I4 337 (ix 14)))) + 3) 2212 ∧ (∀ I16, I16 = u2 I14 337 (ix ((92 + (4 * (I4 337 (ix 14)))) + 3)) 0 → (vp_in 14 2212 ∧ (vp_in 14 2212 ∧ (∀ I19, I19 = u2 I16 337 (ix 14) ((I16 337 (ix 14)) + 1) → (vp_in (74 + x1) 2212 ∧ (vp_in (74 + x1) 2212 ∧ (∀ I22, I22 = u2 I19 337 (ix (74 + x1)) ((I19 337 (ix (74 + x1))) + 1) → (jn_X10_breaksOne_137 I22 v1 v2 Q)))))))))))))))))) ∧ (¬ (I4 337 (ix (62 + x1))) ≤ 0 → (vp_in (62 + x1) 2212 ∧ (vp_in (62 + x1) 2212 ∧ (∀ I45, I45 = u2 I4 337 (ix (62 + x1)) ((I4 337 (ix (62 + x1))) - 1) → (vp_in 7 2212 ∧ (vp_in 7 2212 ∧ (∀ I48, I48 = u2 I45 337 (ix 7) ((I45 337 (ix 7)) + 1) → (jn_X10_breaksOne_137 I48 v1 v2 Q))))))))))))))))
set_option maxRecDepth 20000 in
theorem mt_X10_breaksOne {E : Ev} {l : Launch} {n : Nat} {R : MR} (hn : 349 ≤ n) (hG : GRm R) {I : MI} {L : ML} {v1 : Int32} {v2 : Int32} {Q : Int32 → MI → Prop} (h : wp_X10_breaksOne I v1 v2 Q) : MX E l rm_X10_breaksOne yX10_breaksOne cX10_breaksOne 6 (some .int) [.ref 336, .int v1, .int v2] n I L R (Qi n R (P10 I L Q)) := by
  refine MX_of (ls := [(0, .ref 336), (1, .int v1), (2, .int v2)]) (by decide) (Nat.le_of_ble_eq_true rfl) rfl ?_
  unfold wp_X10_breaksOne at h
  refine x_iload_n dX10_breaksOne_0 rfl ?_
  refine x_iload_n dX10_breaksOne_1 rfl ?_
  refine x_cSi00 [.int v1, .int v2] (mt_X10_cellOf hn hG h) dX10_breaksOne_2 lk_RX10_104 rfl rfl (Nat.le_of_ble_eq_true rfl) (Rf_of rfl) (fun x1 h => ?_)
  refine x_istore_n (ls' := [(3, .int x1), (0, .ref 336), (1, .int v1), (2, .int v2)]) dX10_breaksOne_5 (Nat.le_of_ble_eq_true rfl) rfl ?_
  refine x_aload_n dX10_breaksOne_6 rfl ?_
  refine x_getr (j := 337) dX10_breaksOne_7 fk_RX10_7 (km rfl hn) sh_336 (rt_336_1 hG) ?_
  refine x_bipush (v := 6) dX10_breaksOne_10 kb_6 ?_
  refine x_dup2 dX10_breaksOne_12 rfl rfl ?_
  obtain ⟨b2, h⟩ := h
  refine x_iaload dX10_breaksOne_13 (km rfl hn) sh_337 b2 ?_
  refine x_iconst (v := 1) dX10_breaksOne_14 ki_1 ?_
  refine x_iadd dX10_breaksOne_15 ?_
  obtain ⟨b3, h⟩ := h
  refine x_iastore dX10_breaksOne_16 (km rfl hn) sh_337 b3 (fun I4 eI4 => ?_)
  have h := h I4 eI4
  refine x_aload_n dX10_breaksOne_17 rfl ?_
  refine x_getr (j := 337) dX10_breaksOne_18 fk_RX10_7 (km rfl hn) sh_336 (rt_336_1 hG) ?_
  refine x_bipush (v := 62) dX10_breaksOne_21 kb_62 ?_
  refine x_iload_n dX10_breaksOne_23 rfl ?_
  refine x_iadd dX10_breaksOne_24 ?_
  obtain ⟨b5, h⟩ := h
  refine x_iaload dX10_breaksOne_25 (km rfl hn) sh_337 b5 ?_
  refine x_if_le dX10_breaksOne_26 (tgt := 56) rfl ⟨fun c6 => ?_, fun c6 => ?_⟩
  · have h := h.1 c6
    refine x_bipush (v := 92) dX10_breaksOne_56 kb_92 ?_
    refine x_iconst (v := 4) dX10_breaksOne_58 ki_4 ?_
    refine x_aload_n dX10_breaksOne_59 rfl ?_
    refine x_getr (j := 337) dX10_breaksOne_60 fk_RX10_7 (km rfl hn) sh_336 (rt_336_1 hG) ?_
    refine x_bipush (v := 14) dX10_breaksOne_63 kb_14 ?_
    obtain ⟨b7, h⟩ := h
    refine x_iaload dX10_breaksOne_65 (km rfl hn) sh_337 b7 ?_
    refine x_imul dX10_breaksOne_66 ?_
    refine x_iadd dX10_breaksOne_67 ?_
    refine x_istore (ls' := [(4, .int (92 + (4 * (I4 337 (ix 14))))), (3, .int x1), (0, .ref 336), (1, .int v1), (2, .int v2)]) dX10_breaksOne_68 (Nat.le_of_ble_eq_true rfl) rfl ?_
    refine x_aload_n dX10_breaksOne_70 rfl ?_
    refine x_getr (j := 337) dX10_breaksOne_71 fk_RX10_7 (km rfl hn) sh_336 (rt_336_1 hG) ?_
    refine x_iload dX10_breaksOne_74 rfl ?_
    refine x_iload_n dX10_breaksOne_76 rfl ?_
    obtain ⟨b8, h⟩ := h
    refine x_iastore dX10_breaksOne_77 (km rfl hn) sh_337 b8 (fun I9 eI9 => ?_)
    have h := h I9 eI9
    refine x_aload_n dX10_breaksOne_78 rfl ?_
    refine x_getr (j := 337) dX10_breaksOne_79 fk_RX10_7 (km rfl hn) sh_336 (rt_336_1 hG) ?_
    refine x_iload dX10_breaksOne_82 rfl ?_
    refine x_iconst (v := 1) dX10_breaksOne_84 ki_1 ?_
    refine x_iadd dX10_breaksOne_85 ?_
    refine x_iload_n dX10_breaksOne_86 rfl ?_
    obtain ⟨b10, h⟩ := h
    refine x_iastore dX10_breaksOne_87 (km rfl hn) sh_337 b10 (fun I11 eI11 => ?_)
    have h := h I11 eI11
    refine x_aload_n dX10_breaksOne_88 rfl ?_
    refine x_getr (j := 337) dX10_breaksOne_89 fk_RX10_7 (km rfl hn) sh_336 (rt_336_1 hG) ?_
    refine x_iload dX10_breaksOne_92 rfl ?_
    refine x_iconst (v := 2) dX10_breaksOne_94 ki_2 ?_
    refine x_iadd dX10_breaksOne_95 ?_
    refine x_aload_n dX10_breaksOne_96 rfl ?_
    refine x_getr (j := 337) dX10_breaksOne_97 fk_RX10_7 (km rfl hn) sh_336 (rt_336_1 hG) ?_
    refine x_iconst (v := 5) dX10_breaksOne_100 ki_5 ?_
    obtain ⟨b12, h⟩ := h
    refine x_iaload dX10_breaksOne_101 (km rfl hn) sh_337 b12 ?_
    obtain ⟨b13, h⟩ := h
    refine x_iastore dX10_breaksOne_102 (km rfl hn) sh_337 b13 (fun I14 eI14 => ?_)
    have h := h I14 eI14
    refine x_aload_n dX10_breaksOne_103 rfl ?_
    refine x_getr (j := 337) dX10_breaksOne_104 fk_RX10_7 (km rfl hn) sh_336 (rt_336_1 hG) ?_
    refine x_iload dX10_breaksOne_107 rfl ?_
    refine x_iconst (v := 3) dX10_breaksOne_109 ki_3 ?_
    refine x_iadd dX10_breaksOne_110 ?_
    refine x_iconst (v := 0) dX10_breaksOne_111 ki_0 ?_
    obtain ⟨b15, h⟩ := h
    refine x_iastore dX10_breaksOne_112 (km rfl hn) sh_337 b15 (fun I16 eI16 => ?_)
    have h := h I16 eI16
    refine x_aload_n dX10_breaksOne_113 rfl ?_
    refine x_getr (j := 337) dX10_breaksOne_114 fk_RX10_7 (km rfl hn) sh_336 (rt_336_1 hG) ?_
    refine x_bipush (v := 14) dX10_breaksOne_117 kb_14 ?_
    refine x_dup2 dX10_breaksOne_119 rfl rfl ?_
    obtain ⟨b17, h⟩ := h
    refine x_iaload dX10_breaksOne_120 (km rfl hn) sh_337 b17 ?_
    refine x_iconst (v := 1) dX10_breaksOne_121 ki_1 ?_
    refine x_iadd dX10_breaksOne_122 ?_
    obtain ⟨b18, h⟩ := h
    refine x_iastore dX10_breaksOne_123 (km rfl hn) sh_337 b18 (fun I19 eI19 => ?_)
    have h := h I19 eI19
    refine x_aload_n dX10_breaksOne_124 rfl ?_
    refine x_getr (j := 337) dX10_breaksOne_125 fk_RX10_7 (km rfl hn) sh_336 (rt_336_1 hG) ?_
    refine x_bipush (v := 74) dX10_breaksOne_128 kb_74 ?_
    refine x_iload_n dX10_breaksOne_130 rfl ?_
    refine x_iadd dX10_breaksOne_131 ?_
    refine x_dup2 dX10_breaksOne_132 rfl rfl ?_
    obtain ⟨b20, h⟩ := h
    refine x_iaload dX10_breaksOne_133 (km rfl hn) sh_337 b20 ?_
    refine x_iconst (v := 1) dX10_breaksOne_134 ki_1 ?_
    refine x_iadd dX10_breaksOne_135 ?_
    obtain ⟨b21, h⟩ := h
    refine x_iastore dX10_breaksOne_136 (km rfl hn) sh_337 b21 (fun I22 eI22 => ?_)
    have h := h I22 eI22
    refine x_ls (ls' := [(0, .ref 336), (1, .int v1), (2, .int v2)]) [2, 3, 4] rfl ?_
    exact jnt_X10_breaksOne_137 hn hG  h
  · have h := h.2 c6
    refine x_aload_n dX10_breaksOne_29 rfl ?_
    refine x_getr (j := 337) dX10_breaksOne_30 fk_RX10_7 (km rfl hn) sh_336 (rt_336_1 hG) ?_
    refine x_bipush (v := 62) dX10_breaksOne_33 kb_62 ?_
    refine x_iload_n dX10_breaksOne_35 rfl ?_
    refine x_iadd dX10_breaksOne_36 ?_
    refine x_dup2 dX10_breaksOne_37 rfl rfl ?_
    obtain ⟨b43, h⟩ := h
    refine x_iaload dX10_breaksOne_38 (km rfl hn) sh_337 b43 ?_
    refine x_iconst (v := 1) dX10_breaksOne_39 ki_1 ?_
    refine x_isub dX10_breaksOne_40 ?_
    obtain ⟨b44, h⟩ := h
    refine x_iastore dX10_breaksOne_41 (km rfl hn) sh_337 b44 (fun I45 eI45 => ?_)
    have h := h I45 eI45
    refine x_aload_n dX10_breaksOne_42 rfl ?_
    refine x_getr (j := 337) dX10_breaksOne_43 fk_RX10_7 (km rfl hn) sh_336 (rt_336_1 hG) ?_
    refine x_bipush (v := 7) dX10_breaksOne_46 kb_7 ?_
    refine x_dup2 dX10_breaksOne_48 rfl rfl ?_
    obtain ⟨b46, h⟩ := h
    refine x_iaload dX10_breaksOne_49 (km rfl hn) sh_337 b46 ?_
    refine x_iconst (v := 1) dX10_breaksOne_50 ki_1 ?_
    refine x_iadd dX10_breaksOne_51 ?_
    obtain ⟨b47, h⟩ := h
    refine x_iastore dX10_breaksOne_52 (km rfl hn) sh_337 b47 (fun I48 eI48 => ?_)
    have h := h I48 eI48
    refine x_goto dX10_breaksOne_53 (tgt := 137) rfl ?_
    refine x_ls (ls' := [(0, .ref 336), (1, .int v1), (2, .int v2)]) [1, 2, 3] rfl ?_
    exact jnt_X10_breaksOne_137 hn hG  h
abbrev rm_X10_canBreak : Room := { frames := 1, cells := 0, slots := 0, locals := 21 }
def wp_X10_canBreak (I : MI) (v1 : Int32) (v2 : Int32) (Q : Int32 → Prop) : Prop :=
    (wp_X10_cellOf v1 v2 (fun x1 => ((vp_in (74 + x1) 2212 ∧ (wp_X10_cellOf v1 v2 (fun x3 => ((vp_in (32 + x3) 2212 ∧ (((I 337 (ix (32 + x3))) ≤ (I 337 (ix (74 + x1))) → Q 0) ∧ (¬ (I 337 (ix (32 + x3))) ≤ (I 337 (ix (74 + x1))) → Q 1))))))))))
set_option maxRecDepth 20000 in
theorem mt_X10_canBreak {E : Ev} {l : Launch} {n : Nat} {R : MR} (hn : 349 ≤ n) (hG : GRm R) {I : MI} {L : ML} {v1 : Int32} {v2 : Int32} {Q : Int32 → Prop} (h : wp_X10_canBreak I v1 v2 Q) : MX E l rm_X10_canBreak yX10_canBreak cX10_canBreak 3 (some .boolean) [.ref 336, .int v1, .int v2] n I L R (Qi n R (P00 I L Q)) := by
  refine MX_of (ls := [(0, .ref 336), (1, .int v1), (2, .int v2)]) (by decide) (Nat.le_of_ble_eq_true rfl) rfl ?_
  unfold wp_X10_canBreak at h
  refine x_aload_n dX10_canBreak_0 rfl ?_
  refine x_getr (j := 337) dX10_canBreak_1 fk_RX10_7 (km rfl hn) sh_336 (rt_336_1 hG) ?_
  refine x_bipush (v := 74) dX10_canBreak_4 kb_74 ?_
  refine x_iload_n dX10_canBreak_6 rfl ?_
  refine x_iload_n dX10_canBreak_7 rfl ?_
  refine x_cSi00 [.int v1, .int v2] (mt_X10_cellOf hn hG h) dX10_canBreak_8 lk_RX10_104 rfl rfl (Nat.le_of_ble_eq_true rfl) (Rf_of rfl) (fun x1 h => ?_)
  refine x_iadd dX10_canBreak_11 ?_
  obtain ⟨b2, h⟩ := h
  refine x_iaload dX10_canBreak_12 (km rfl hn) sh_337 b2 ?_
  refine x_aload_n dX10_canBreak_13 rfl ?_
  refine x_getr (j := 337) dX10_canBreak_14 fk_RX10_7 (km rfl hn) sh_336 (rt_336_1 hG) ?_
  refine x_bipush (v := 32) dX10_canBreak_17 kb_32 ?_
  refine x_iload_n dX10_canBreak_19 rfl ?_
  refine x_iload_n dX10_canBreak_20 rfl ?_
  refine x_cSi00 [.int v1, .int v2] (mt_X10_cellOf hn hG h) dX10_canBreak_21 lk_RX10_104 rfl rfl (Nat.le_of_ble_eq_true rfl) (Rf_of rfl) (fun x3 h => ?_)
  refine x_iadd dX10_canBreak_24 ?_
  obtain ⟨b4, h⟩ := h
  refine x_iaload dX10_canBreak_25 (km rfl hn) sh_337 b4 ?_
  refine x_icmp_ge dX10_canBreak_26 (tgt := 33) rfl ⟨fun c5 => ?_, fun c5 => ?_⟩
  · have h := h.1 c5
    refine x_iconst (v := 0) dX10_canBreak_33 ki_0 ?_
    exact x_zreturn dX10_canBreak_34 rfl ⟨_, rfl, rfl, rfl, rfl, rfl, h⟩
  · have h := h.2 c5
    refine x_iconst (v := 1) dX10_canBreak_29 ki_1 ?_
    refine x_goto dX10_canBreak_30 (tgt := 34) rfl ?_
    exact x_zreturn dX10_canBreak_34 rfl ⟨_, rfl, rfl, rfl, rfl, rfl, h⟩
abbrev rm_X10_lender : Room := { frames := 1, cells := 0, slots := 0, locals := 21 }
def jn_X10_lender_75 (v3 : Int32) (v4 : Int32) (kj5 : Int32 → Int32 → Prop) : Prop :=
    kj5 v3 (v4 + 1)
set_option maxRecDepth 20000 in
theorem jnt_X10_lender_75 {E : Ev} {l : Launch} {n : Nat} {R : MR} (hn : 349 ≤ n) (hG : GRm R) {Q : Int32 → Prop} {I : MI} {L : ML} {v1 : Int32} {v2 : Int32} {v3 : Int32} {v4 : Int32} {kj5 : Int32 → Int32 → Prop}
    (hJ5 : ∀ (v3 : Int32) (v4 : Int32), kj5 v3 v4 → X E l rm_X10_lender yX10_lender cX10_lender 5 (some .int) noX (ZM E rm_X10_lender (Qi n R (P00 I L Q))) 5 [(0, .ref 336), (1, .int v1), (2, .int v2), (3, .int v3), (4, .int v4)] [] n I L R 0 0) (h : jn_X10_lender_75 v3 v4 kj5) : X E l rm_X10_lender yX10_lender cX10_lender 5 (some .int) noX (ZM E rm_X10_lender (Qi n R (P00 I L Q))) 75 [(0, .ref 336), (1, .int v1), (2, .int v2), (3, .int v3), (4, .int v4)] [] n I L R 0 0 := by
  unfold jn_X10_lender_75 at h
  refine x_iinc (v := v4 + 1) (ls' := [(4, .int (v4 + 1)), (0, .ref 336), (1, .int v1), (2, .int v2), (3, .int v3)]) dX10_lender_75 rfl (congrArg (_ + ·) ki_1) (Nat.le_of_ble_eq_true rfl) rfl ?_
  refine x_goto dX10_lender_78 (tgt := 5) rfl ?_
  refine x_ls (ls' := [(0, .ref 336), (1, .int v1), (2, .int v2), (3, .int v3), (4, .int (v4 + 1))]) [1, 2, 3, 4, 0] rfl ?_
  exact hJ5 v3 (v4 + 1) h
def jn_X10_lender_72 (v4 : Int32) (kj5 : Int32 → Int32 → Prop) : Prop :=
    (jn_X10_lender_75 v4 v4 (fun x13 x14 => kj5 x13 x14))
set_option maxRecDepth 20000 in
theorem jnt_X10_lender_72 {E : Ev} {l : Launch} {n : Nat} {R : MR} (hn : 349 ≤ n) (hG : GRm R) {Q : Int32 → Prop} {I : MI} {L : ML} {v1 : Int32} {v2 : Int32} {v4 : Int32} {kj5 : Int32 → Int32 → Prop}
    (hJ5 : ∀ (v3 : Int32) (v4 : Int32), kj5 v3 v4 → X E l rm_X10_lender yX10_lender cX10_lender 5 (some .int) noX (ZM E rm_X10_lender (Qi n R (P00 I L Q))) 5 [(0, .ref 336), (1, .int v1), (2, .int v2), (3, .int v3), (4, .int v4)] [] n I L R 0 0) (h : jn_X10_lender_72 v4 kj5) : X E l rm_X10_lender yX10_lender cX10_lender 5 (some .int) noX (ZM E rm_X10_lender (Qi n R (P00 I L Q))) 72 [(0, .ref 336), (1, .int v1), (2, .int v2), (4, .int v4)] [] n I L R 0 0 := by
  unfold jn_X10_lender_72 at h
  refine x_iload dX10_lender_72 rfl ?_
  refine x_istore_n (ls' := [(3, .int v4), (0, .ref 336), (1, .int v1), (2, .int v2), (4, .int v4)]) dX10_lender_74 (Nat.le_of_ble_eq_true rfl) rfl ?_
  refine x_ls (ls' := [(0, .ref 336), (1, .int v1), (2, .int v2), (3, .int v4), (4, .int v4)]) [1, 2, 3, 0, 4] rfl ?_
  refine jnt_X10_lender_75 hn hG (fun x13 x14 h => ?_) h
  exact hJ5 x13 x14 h
def lp_X10_lender_5 (I : MI) (v1 : Int32) (v2 : Int32) (Q : Int32 → Prop) : Nat → Int32 → Int32 → Prop
  | 0, _, _ => False
  | n + 1, v3, v4 =>
    (vp_in 1 2212 ∧ (((I 337 (ix 1)) ≤ v4 → Q v3) ∧ (¬ (I 337 (ix 1)) ≤ v4 → ((v4 = v1 → (jn_X10_lender_75 v3 v4 (fun x4 x5 => (lp_X10_lender_5 I v1 v2 Q n x4 x5)))) ∧ (¬ v4 = v1 → (wp_X10_cellOf v4 v2 (fun x6 => ((vp_in (62 + x6) 2212 ∧ (vp_in 3 2212 ∧ (((I 337 (ix (62 + x6))) ≤ (I 337 (ix 3)) → (jn_X10_lender_75 v3 v4 (fun x10 x11 => (lp_X10_lender_5 I v1 v2 Q n x10 x11)))) ∧ (¬ (I 337 (ix (62 + x6))) ≤ (I 337 (ix 3)) → ((v3 = (-1) → (jn_X10_lender_72 v4 (fun x15 x16 => (lp_X10_lender_5 I v1 v2 Q n x15 x16)))) ∧ (¬ v3 = (-1) → (vp_in (29 + v4) 2212 ∧ (vp_in (29 + v3) 2212 ∧ (((I 337 (ix (29 + v3))) ≤ (I 337 (ix (29 + v4))) → (jn_X10_lender_75 v3 v4 (fun x20 x21 => (lp_X10_lender_5 I v1 v2 Q n x20 x21)))) ∧ (¬ (I 337 (ix (29 + v3))) ≤ (I 337 (ix (29 + v4))) → (jn_X10_lender_72 v4 (fun x22 x23 => (lp_X10_lender_5 I v1 v2 Q n x22 x23)))))))))))))))))))))
set_option maxRecDepth 20000 in
theorem lpt_X10_lender_5 {E : Ev} {l : Launch} {n : Nat} {R : MR} (hn : 349 ≤ n) (hG : GRm R) {Q : Int32 → Prop} {v1 : Int32} {v2 : Int32} {I : MI} {L : ML} : ∀ (N : Nat) (v3 : Int32) (v4 : Int32), lp_X10_lender_5 I v1 v2 Q N v3 v4 → X E l rm_X10_lender yX10_lender cX10_lender 5 (some .int) noX (ZM E rm_X10_lender (Qi n R (P00 I L Q))) 5 [(0, .ref 336), (1, .int v1), (2, .int v2), (3, .int v3), (4, .int v4)] [] n I L R 0 0 := by
  intro N
  induction N with
  | zero => intro v3 v4 h; exact False.elim h
  | succ N ih =>
    intro v3 v4 h
    unfold lp_X10_lender_5 at h
    refine x_iload dX10_lender_5 rfl ?_
    refine x_aload_n dX10_lender_7 rfl ?_
    refine x_getr (j := 337) dX10_lender_8 fk_RX10_7 (km rfl hn) sh_336 (rt_336_1 hG) ?_
    refine x_iconst (v := 1) dX10_lender_11 ki_1 ?_
    obtain ⟨b1, h⟩ := h
    refine x_iaload dX10_lender_12 (km rfl hn) sh_337 b1 ?_
    refine x_icmp_ge dX10_lender_13 (tgt := 81) rfl ⟨fun c2 => ?_, fun c2 => ?_⟩
    · have h := h.1 c2
      refine x_iload_n dX10_lender_81 rfl ?_
      exact x_ireturn dX10_lender_82 ⟨_, rfl, rfl, rfl, rfl, rfl, h⟩
    · have h := h.2 c2
      refine x_iload dX10_lender_16 rfl ?_
      refine x_iload_n dX10_lender_18 rfl ?_
      refine x_icmp_eq dX10_lender_19 (tgt := 75) rfl ⟨fun c3 => ?_, fun c3 => ?_⟩
      · have h := h.1 c3
        refine jnt_X10_lender_75 hn hG (fun x4 x5 h => ?_) h
        exact ih x4 x5 h
      · have h := h.2 c3
        refine x_aload_n dX10_lender_22 rfl ?_
        refine x_getr (j := 337) dX10_lender_23 fk_RX10_7 (km rfl hn) sh_336 (rt_336_1 hG) ?_
        refine x_bipush (v := 62) dX10_lender_26 kb_62 ?_
        refine x_iload dX10_lender_28 rfl ?_
        refine x_iload_n dX10_lender_30 rfl ?_
        refine x_cSi00 [.int v4, .int v2] (mt_X10_cellOf hn hG h) dX10_lender_31 lk_RX10_104 rfl rfl (Nat.le_of_ble_eq_true rfl) (Rf_of rfl) (fun x6 h => ?_)
        refine x_iadd dX10_lender_34 ?_
        obtain ⟨b7, h⟩ := h
        refine x_iaload dX10_lender_35 (km rfl hn) sh_337 b7 ?_
        refine x_aload_n dX10_lender_36 rfl ?_
        refine x_getr (j := 337) dX10_lender_37 fk_RX10_7 (km rfl hn) sh_336 (rt_336_1 hG) ?_
        refine x_iconst (v := 3) dX10_lender_40 ki_3 ?_
        obtain ⟨b8, h⟩ := h
        refine x_iaload dX10_lender_41 (km rfl hn) sh_337 b8 ?_
        refine x_icmp_le dX10_lender_42 (tgt := 75) rfl ⟨fun c9 => ?_, fun c9 => ?_⟩
        · have h := h.1 c9
          refine jnt_X10_lender_75 hn hG (fun x10 x11 h => ?_) h
          exact ih x10 x11 h
        · have h := h.2 c9
          refine x_iload_n dX10_lender_45 rfl ?_
          refine x_iconst (v := (-1)) dX10_lender_46 ki_m1 ?_
          refine x_icmp_eq dX10_lender_47 (tgt := 72) rfl ⟨fun c12 => ?_, fun c12 => ?_⟩
          · have h := h.1 c12
            refine x_ls (ls' := [(0, .ref 336), (1, .int v1), (2, .int v2), (4, .int v4)]) [0, 1, 2, 4] rfl ?_
            refine jnt_X10_lender_72 hn hG (fun x15 x16 h => ?_) h
            exact ih x15 x16 h
          · have h := h.2 c12
            refine x_aload_n dX10_lender_50 rfl ?_
            refine x_getr (j := 337) dX10_lender_51 fk_RX10_7 (km rfl hn) sh_336 (rt_336_1 hG) ?_
            refine x_bipush (v := 29) dX10_lender_54 kb_29 ?_
            refine x_iload dX10_lender_56 rfl ?_
            refine x_iadd dX10_lender_58 ?_
            obtain ⟨b17, h⟩ := h
            refine x_iaload dX10_lender_59 (km rfl hn) sh_337 b17 ?_
            refine x_aload_n dX10_lender_60 rfl ?_
            refine x_getr (j := 337) dX10_lender_61 fk_RX10_7 (km rfl hn) sh_336 (rt_336_1 hG) ?_
            refine x_bipush (v := 29) dX10_lender_64 kb_29 ?_
            refine x_iload_n dX10_lender_66 rfl ?_
            refine x_iadd dX10_lender_67 ?_
            obtain ⟨b18, h⟩ := h
            refine x_iaload dX10_lender_68 (km rfl hn) sh_337 b18 ?_
            refine x_icmp_ge dX10_lender_69 (tgt := 75) rfl ⟨fun c19 => ?_, fun c19 => ?_⟩
            · have h := h.1 c19
              refine jnt_X10_lender_75 hn hG (fun x20 x21 h => ?_) h
              exact ih x20 x21 h
            · have h := h.2 c19
              refine x_ls (ls' := [(0, .ref 336), (1, .int v1), (2, .int v2), (4, .int v4)]) [0, 1, 2, 4] rfl ?_
              refine jnt_X10_lender_72 hn hG (fun x22 x23 h => ?_) h
              exact ih x22 x23 h
def wp_X10_lender (I : MI) (v1 : Int32) (v2 : Int32) (Q : Int32 → Prop) : Prop :=
    (∃ N24, lp_X10_lender_5 I v1 v2 Q N24 (-1) 0)
set_option maxRecDepth 20000 in
theorem mt_X10_lender {E : Ev} {l : Launch} {n : Nat} {R : MR} (hn : 349 ≤ n) (hG : GRm R) {I : MI} {L : ML} {v1 : Int32} {v2 : Int32} {Q : Int32 → Prop} (h : wp_X10_lender I v1 v2 Q) : MX E l rm_X10_lender yX10_lender cX10_lender 5 (some .int) [.ref 336, .int v1, .int v2] n I L R (Qi n R (P00 I L Q)) := by
  refine MX_of (ls := [(0, .ref 336), (1, .int v1), (2, .int v2)]) (by decide) (Nat.le_of_ble_eq_true rfl) rfl ?_
  unfold wp_X10_lender at h
  refine x_iconst (v := (-1)) dX10_lender_0 ki_m1 ?_
  refine x_istore_n (ls' := [(3, .int (-1)), (0, .ref 336), (1, .int v1), (2, .int v2)]) dX10_lender_1 (Nat.le_of_ble_eq_true rfl) rfl ?_
  refine x_iconst (v := 0) dX10_lender_2 ki_0 ?_
  refine x_istore (ls' := [(4, .int 0), (3, .int (-1)), (0, .ref 336), (1, .int v1), (2, .int v2)]) dX10_lender_3 (Nat.le_of_ble_eq_true rfl) rfl ?_
  refine x_ls (ls' := [(0, .ref 336), (1, .int v1), (2, .int v2), (3, .int (-1)), (4, .int 0)]) [2, 3, 4, 1, 0] rfl ?_
  obtain ⟨N24, h⟩ := h
  exact lpt_X10_lender_5 hn hG  N24 (-1) 0 h
abbrev rm_X10_lends : Room := { frames := 2, cells := 0, slots := 0, locals := 45 }
def jn_X10_lends_177 (I : MI) (v1 : Int32) (kj2 : Int32 → MI → Prop) : Prop :=
    kj2 (v1 + 1) I
set_option maxRecDepth 20000 in
theorem jnt_X10_lends_177 {E : Ev} {l : Launch} {n : Nat} {R : MR} (hn : 349 ≤ n) (hG : GRm R) {I0 : MI} {Q : MI → Prop} {I : MI} {L : ML} {v1 : Int32} {kj2 : Int32 → MI → Prop}
    (hJ2 : ∀ (v1 : Int32) (I : MI), kj2 v1 I → X E l rm_X10_lends yX10_lends cX10_lends 7 none noX (ZM E rm_X10_lends (Qv n R (V10 I0 L Q))) 2 [(0, .ref 336), (1, .int v1)] [] n I L R 0 0) (h : jn_X10_lends_177 I v1 kj2) : X E l rm_X10_lends yX10_lends cX10_lends 7 none noX (ZM E rm_X10_lends (Qv n R (V10 I0 L Q))) 177 [(0, .ref 336), (1, .int v1)] [] n I L R 0 0 := by
  unfold jn_X10_lends_177 at h
  refine x_iinc (v := v1 + 1) (ls' := [(1, .int (v1 + 1)), (0, .ref 336)]) dX10_lends_177 rfl (congrArg (_ + ·) ki_1) (Nat.le_of_ble_eq_true rfl) rfl ?_
  refine x_goto dX10_lends_180 (tgt := 2) rfl ?_
  refine x_ls (ls' := [(0, .ref 336), (1, .int (v1 + 1))]) [1, 0] rfl ?_
  exact hJ2 (v1 + 1) I h
def jn_X10_lends_60 (I : MI) (v1 : Int32) (v2 : Int32) (v3 : Int32) (v4 : Int32) (s0 : Int32) (kj2 : Int32 → MI → Prop) : Prop :=
    ((¬ s0 = (-1) → (vp_in (v2 + 3) 2212 ∧ (∀ I10, I10 = u2 I 337 (ix (v2 + 3)) 1 → (wp_X10_cellOf s0 v4 (fun x11 => ((vp_in (62 + x11) 2212 ∧ (vp_in (62 + x11) 2212 ∧ (∀ I14, I14 = u2 I10 337 (ix (62 + x11)) ((I10 337 (ix (62 + x11))) - 1) → (wp_X10_cellOf s0 v4 (fun x15 => ((vp_in (83 + x15) 2212 ∧ (vp_in (83 + x15) 2212 ∧ (∀ I18, I18 = u2 I14 337 (ix (83 + x15)) ((I14 337 (ix (83 + x15))) - 1) → (wp_X10_cellOf v3 v4 (fun x19 => ((vp_in (83 + x19) 2212 ∧ (vp_in (83 + x19) 2212 ∧ (∀ I22, I22 = u2 I18 337 (ix (83 + x19)) ((I18 337 (ix (83 + x19))) + 1) → (vp_in 11 2212 ∧ (vp_in 11 2212 ∧ (∀ I25, I25 = u2 I22 337 (ix 11) ((I22 337 (ix 11)) + 1) → (vp_in (29 + s0) 2212 ∧ (vp_in (29 + v3) 2212 ∧ (wp_X10_begins I25 4 v4 v3 ((I25 337 (ix (29 + s0))) + (I25 337 (ix (29 + v3)))) (fun x28 I29 => ((jn_X10_lends_177 I29 v1 (fun x30 I31 => kj2 x30 I31))))))))))))))))))))))))))))))) ∧ (s0 = (-1) → (jn_X10_lends_177 I v1 (fun x32 I33 => kj2 x32 I33))))
set_option maxRecDepth 20000 in
theorem jnt_X10_lends_60 {E : Ev} {l : Launch} {n : Nat} {R : MR} (hn : 349 ≤ n) (hG : GRm R) {I0 : MI} {Q : MI → Prop} {I : MI} {L : ML} {v1 : Int32} {v2 : Int32} {v3 : Int32} {v4 : Int32} {s0 : Int32} {kj2 : Int32 → MI → Prop}
    (hJ2 : ∀ (v1 : Int32) (I : MI), kj2 v1 I → X E l rm_X10_lends yX10_lends cX10_lends 7 none noX (ZM E rm_X10_lends (Qv n R (V10 I0 L Q))) 2 [(0, .ref 336), (1, .int v1)] [] n I L R 0 0) (h : jn_X10_lends_60 I v1 v2 v3 v4 s0 kj2) : X E l rm_X10_lends yX10_lends cX10_lends 7 none noX (ZM E rm_X10_lends (Qv n R (V10 I0 L Q))) 60 [(0, .ref 336), (1, .int v1), (2, .int v2), (3, .int v3), (4, .int v4)] [.int s0] n I L R 0 0 := by
  unfold jn_X10_lends_60 at h
  refine x_istore (ls' := [(5, .int s0), (0, .ref 336), (1, .int v1), (2, .int v2), (3, .int v3), (4, .int v4)]) dX10_lends_60 (Nat.le_of_ble_eq_true rfl) rfl ?_
  refine x_iload dX10_lends_62 rfl ?_
  refine x_iconst (v := (-1)) dX10_lends_64 ki_m1 ?_
  refine x_icmp_ne dX10_lends_65 (tgt := 71) rfl ⟨fun c8 => ?_, fun c8 => ?_⟩
  · have h := h.1 c8
    refine x_aload_n dX10_lends_71 rfl ?_
    refine x_getr (j := 337) dX10_lends_72 fk_RX10_7 (km rfl hn) sh_336 (rt_336_1 hG) ?_
    refine x_iload_n dX10_lends_75 rfl ?_
    refine x_iconst (v := 3) dX10_lends_76 ki_3 ?_
    refine x_iadd dX10_lends_77 ?_
    refine x_iconst (v := 1) dX10_lends_78 ki_1 ?_
    obtain ⟨b9, h⟩ := h
    refine x_iastore dX10_lends_79 (km rfl hn) sh_337 b9 (fun I10 eI10 => ?_)
    have h := h I10 eI10
    refine x_aload_n dX10_lends_80 rfl ?_
    refine x_getr (j := 337) dX10_lends_81 fk_RX10_7 (km rfl hn) sh_336 (rt_336_1 hG) ?_
    refine x_bipush (v := 62) dX10_lends_84 kb_62 ?_
    refine x_iload dX10_lends_86 rfl ?_
    refine x_iload dX10_lends_88 rfl ?_
    refine x_cSi00 [.int s0, .int v4] (mt_X10_cellOf hn hG h) dX10_lends_90 lk_RX10_104 rfl rfl (Nat.le_of_ble_eq_true rfl) (Rf_of rfl) (fun x11 h => ?_)
    refine x_iadd dX10_lends_93 ?_
    refine x_dup2 dX10_lends_94 rfl rfl ?_
    obtain ⟨b12, h⟩ := h
    refine x_iaload dX10_lends_95 (km rfl hn) sh_337 b12 ?_
    refine x_iconst (v := 1) dX10_lends_96 ki_1 ?_
    refine x_isub dX10_lends_97 ?_
    obtain ⟨b13, h⟩ := h
    refine x_iastore dX10_lends_98 (km rfl hn) sh_337 b13 (fun I14 eI14 => ?_)
    have h := h I14 eI14
    refine x_aload_n dX10_lends_99 rfl ?_
    refine x_getr (j := 337) dX10_lends_100 fk_RX10_7 (km rfl hn) sh_336 (rt_336_1 hG) ?_
    refine x_bipush (v := 83) dX10_lends_103 kb_83 ?_
    refine x_iload dX10_lends_105 rfl ?_
    refine x_iload dX10_lends_107 rfl ?_
    refine x_cSi00 [.int s0, .int v4] (mt_X10_cellOf hn hG h) dX10_lends_109 lk_RX10_104 rfl rfl (Nat.le_of_ble_eq_true rfl) (Rf_of rfl) (fun x15 h => ?_)
    refine x_iadd dX10_lends_112 ?_
    refine x_dup2 dX10_lends_113 rfl rfl ?_
    obtain ⟨b16, h⟩ := h
    refine x_iaload dX10_lends_114 (km rfl hn) sh_337 b16 ?_
    refine x_iconst (v := 1) dX10_lends_115 ki_1 ?_
    refine x_isub dX10_lends_116 ?_
    obtain ⟨b17, h⟩ := h
    refine x_iastore dX10_lends_117 (km rfl hn) sh_337 b17 (fun I18 eI18 => ?_)
    have h := h I18 eI18
    refine x_aload_n dX10_lends_118 rfl ?_
    refine x_getr (j := 337) dX10_lends_119 fk_RX10_7 (km rfl hn) sh_336 (rt_336_1 hG) ?_
    refine x_bipush (v := 83) dX10_lends_122 kb_83 ?_
    refine x_iload_n dX10_lends_124 rfl ?_
    refine x_iload dX10_lends_125 rfl ?_
    refine x_cSi00 [.int v3, .int v4] (mt_X10_cellOf hn hG h) dX10_lends_127 lk_RX10_104 rfl rfl (Nat.le_of_ble_eq_true rfl) (Rf_of rfl) (fun x19 h => ?_)
    refine x_iadd dX10_lends_130 ?_
    refine x_dup2 dX10_lends_131 rfl rfl ?_
    obtain ⟨b20, h⟩ := h
    refine x_iaload dX10_lends_132 (km rfl hn) sh_337 b20 ?_
    refine x_iconst (v := 1) dX10_lends_133 ki_1 ?_
    refine x_iadd dX10_lends_134 ?_
    obtain ⟨b21, h⟩ := h
    refine x_iastore dX10_lends_135 (km rfl hn) sh_337 b21 (fun I22 eI22 => ?_)
    have h := h I22 eI22
    refine x_aload_n dX10_lends_136 rfl ?_
    refine x_getr (j := 337) dX10_lends_137 fk_RX10_7 (km rfl hn) sh_336 (rt_336_1 hG) ?_
    refine x_bipush (v := 11) dX10_lends_140 kb_11 ?_
    refine x_dup2 dX10_lends_142 rfl rfl ?_
    obtain ⟨b23, h⟩ := h
    refine x_iaload dX10_lends_143 (km rfl hn) sh_337 b23 ?_
    refine x_iconst (v := 1) dX10_lends_144 ki_1 ?_
    refine x_iadd dX10_lends_145 ?_
    obtain ⟨b24, h⟩ := h
    refine x_iastore dX10_lends_146 (km rfl hn) sh_337 b24 (fun I25 eI25 => ?_)
    have h := h I25 eI25
    refine x_aload_n dX10_lends_147 rfl ?_
    refine x_iconst (v := 4) dX10_lends_148 ki_4 ?_
    refine x_iload dX10_lends_149 rfl ?_
    refine x_iload_n dX10_lends_151 rfl ?_
    refine x_aload_n dX10_lends_152 rfl ?_
    refine x_getr (j := 337) dX10_lends_153 fk_RX10_7 (km rfl hn) sh_336 (rt_336_1 hG) ?_
    refine x_bipush (v := 29) dX10_lends_156 kb_29 ?_
    refine x_iload dX10_lends_158 rfl ?_
    refine x_iadd dX10_lends_160 ?_
    obtain ⟨b26, h⟩ := h
    refine x_iaload dX10_lends_161 (km rfl hn) sh_337 b26 ?_
    refine x_aload_n dX10_lends_162 rfl ?_
    refine x_getr (j := 337) dX10_lends_163 fk_RX10_7 (km rfl hn) sh_336 (rt_336_1 hG) ?_
    refine x_bipush (v := 29) dX10_lends_166 kb_29 ?_
    refine x_iload_n dX10_lends_168 rfl ?_
    refine x_iadd dX10_lends_169 ?_
    obtain ⟨b27, h⟩ := h
    refine x_iaload dX10_lends_170 (km rfl hn) sh_337 b27 ?_
    refine x_iadd dX10_lends_171 ?_
    refine x_cVi10 [.int 4, .int v4, .int v3, .int ((I25 337 (ix (29 + s0))) + (I25 337 (ix (29 + v3))))] (mt_X10_begins hn hG h) dX10_lends_172 lk_RX10_167 (km rfl hn) sh_336 rfl rfl (Nat.le_of_ble_eq_true rfl) (Rf_of rfl) (fun x28 I29 h => ?_)
    refine x_istore (ls' := [(6, .int x28), (5, .int s0), (0, .ref 336), (1, .int v1), (2, .int v2), (3, .int v3), (4, .int v4)]) dX10_lends_175 (Nat.le_of_ble_eq_true rfl) rfl ?_
    refine x_ls (ls' := [(0, .ref 336), (1, .int v1)]) [2, 3] rfl ?_
    refine jnt_X10_lends_177 hn hG (fun x30 I31 h => ?_) h
    exact hJ2 x30 I31 h
  · have h := h.2 c8
    refine x_goto dX10_lends_68 (tgt := 177) rfl ?_
    refine x_ls (ls' := [(0, .ref 336), (1, .int v1)]) [1, 2] rfl ?_
    refine jnt_X10_lends_177 hn hG (fun x32 I33 h => ?_) h
    exact hJ2 x32 I33 h
def lp_X10_lends_2 (Q : MI → Prop) : Nat → Int32 → MI → Prop
  | 0, _, _ => False
  | n + 1, v1, I =>
    (vp_in 14 2212 ∧ (((I 337 (ix 14)) ≤ v1 → Q I) ∧ (¬ (I 337 (ix 14)) ≤ v1 → (vp_in (92 + (4 * v1)) 2212 ∧ (vp_in ((92 + (4 * v1)) + 1) 2212 ∧ (vp_in ((92 + (4 * v1)) + 3) 2212 ∧ ((¬ (I 337 (ix ((92 + (4 * v1)) + 3))) = 1 → (wp_X10_lender I (I 337 (ix (92 + (4 * v1)))) (I 337 (ix ((92 + (4 * v1)) + 1))) (fun x7 => ((jn_X10_lends_60 I v1 (92 + (4 * v1)) (I 337 (ix (92 + (4 * v1)))) (I 337 (ix ((92 + (4 * v1)) + 1))) x7 (fun x34 I35 => (lp_X10_lends_2 Q n x34 I35))))))) ∧ ((I 337 (ix ((92 + (4 * v1)) + 3))) = 1 → (jn_X10_lends_60 I v1 (92 + (4 * v1)) (I 337 (ix (92 + (4 * v1)))) (I 337 (ix ((92 + (4 * v1)) + 1))) (-1) (fun x36 I37 => (lp_X10_lends_2 Q n x36 I37)))))))))))
set_option maxRecDepth 20000 in
theorem lpt_X10_lends_2 {E : Ev} {l : Launch} {n : Nat} {R : MR} (hn : 349 ≤ n) (hG : GRm R) {I0 : MI} {Q : MI → Prop} {L : ML} : ∀ (N : Nat) (v1 : Int32) (I : MI), lp_X10_lends_2 Q N v1 I → X E l rm_X10_lends yX10_lends cX10_lends 7 none noX (ZM E rm_X10_lends (Qv n R (V10 I0 L Q))) 2 [(0, .ref 336), (1, .int v1)] [] n I L R 0 0 := by
  intro N
  induction N with
  | zero => intro v1 I h; exact False.elim h
  | succ N ih =>
    intro v1 I h
    unfold lp_X10_lends_2 at h
    refine x_iload_n dX10_lends_2 rfl ?_
    refine x_aload_n dX10_lends_3 rfl ?_
    refine x_getr (j := 337) dX10_lends_4 fk_RX10_7 (km rfl hn) sh_336 (rt_336_1 hG) ?_
    refine x_bipush (v := 14) dX10_lends_7 kb_14 ?_
    obtain ⟨b1, h⟩ := h
    refine x_iaload dX10_lends_9 (km rfl hn) sh_337 b1 ?_
    refine x_icmp_ge dX10_lends_10 (tgt := 183) rfl ⟨fun c2 => ?_, fun c2 => ?_⟩
    · have h := h.1 c2
      exact x_return dX10_lends_183 ⟨rfl, rfl, rfl, rfl, h⟩
    · have h := h.2 c2
      refine x_bipush (v := 92) dX10_lends_13 kb_92 ?_
      refine x_iconst (v := 4) dX10_lends_15 ki_4 ?_
      refine x_iload_n dX10_lends_16 rfl ?_
      refine x_imul dX10_lends_17 ?_
      refine x_iadd dX10_lends_18 ?_
      refine x_istore_n (ls' := [(2, .int (92 + (4 * v1))), (0, .ref 336), (1, .int v1)]) dX10_lends_19 (Nat.le_of_ble_eq_true rfl) rfl ?_
      refine x_aload_n dX10_lends_20 rfl ?_
      refine x_getr (j := 337) dX10_lends_21 fk_RX10_7 (km rfl hn) sh_336 (rt_336_1 hG) ?_
      refine x_iload_n dX10_lends_24 rfl ?_
      obtain ⟨b3, h⟩ := h
      refine x_iaload dX10_lends_25 (km rfl hn) sh_337 b3 ?_
      refine x_istore_n (ls' := [(3, .int (I 337 (ix (92 + (4 * v1))))), (2, .int (92 + (4 * v1))), (0, .ref 336), (1, .int v1)]) dX10_lends_26 (Nat.le_of_ble_eq_true rfl) rfl ?_
      refine x_aload_n dX10_lends_27 rfl ?_
      refine x_getr (j := 337) dX10_lends_28 fk_RX10_7 (km rfl hn) sh_336 (rt_336_1 hG) ?_
      refine x_iload_n dX10_lends_31 rfl ?_
      refine x_iconst (v := 1) dX10_lends_32 ki_1 ?_
      refine x_iadd dX10_lends_33 ?_
      obtain ⟨b4, h⟩ := h
      refine x_iaload dX10_lends_34 (km rfl hn) sh_337 b4 ?_
      refine x_istore (ls' := [(4, .int (I 337 (ix ((92 + (4 * v1)) + 1)))), (3, .int (I 337 (ix (92 + (4 * v1))))), (2, .int (92 + (4 * v1))), (0, .ref 336), (1, .int v1)]) dX10_lends_35 (Nat.le_of_ble_eq_true rfl) rfl ?_
      refine x_aload_n dX10_lends_37 rfl ?_
      refine x_getr (j := 337) dX10_lends_38 fk_RX10_7 (km rfl hn) sh_336 (rt_336_1 hG) ?_
      refine x_iload_n dX10_lends_41 rfl ?_
      refine x_iconst (v := 3) dX10_lends_42 ki_3 ?_
      refine x_iadd dX10_lends_43 ?_
      obtain ⟨b5, h⟩ := h
      refine x_iaload dX10_lends_44 (km rfl hn) sh_337 b5 ?_
      refine x_iconst (v := 1) dX10_lends_45 ki_1 ?_
      refine x_icmp_ne dX10_lends_46 (tgt := 53) rfl ⟨fun c6 => ?_, fun c6 => ?_⟩
      · have h := h.1 c6
        refine x_aload_n dX10_lends_53 rfl ?_
        refine x_iload_n dX10_lends_54 rfl ?_
        refine x_iload dX10_lends_55 rfl ?_
        refine x_cVi00 [.int (I 337 (ix (92 + (4 * v1)))), .int (I 337 (ix ((92 + (4 * v1)) + 1)))] (mt_X10_lender hn hG h) dX10_lends_57 lk_RX10_185 (km rfl hn) sh_336 rfl rfl (Nat.le_of_ble_eq_true rfl) (Rf_of rfl) (fun x7 h => ?_)
        refine x_ls (ls' := [(0, .ref 336), (1, .int v1), (2, .int (92 + (4 * v1))), (3, .int (I 337 (ix (92 + (4 * v1))))), (4, .int (I 337 (ix ((92 + (4 * v1)) + 1))))]) [3, 4, 2, 1, 0] rfl ?_
        refine jnt_X10_lends_60 hn hG (fun x34 I35 h => ?_) h
        exact ih x34 I35 h
      · have h := h.2 c6
        refine x_iconst (v := (-1)) dX10_lends_49 ki_m1 ?_
        refine x_goto dX10_lends_50 (tgt := 60) rfl ?_
        refine x_ls (ls' := [(0, .ref 336), (1, .int v1), (2, .int (92 + (4 * v1))), (3, .int (I 337 (ix (92 + (4 * v1))))), (4, .int (I 337 (ix ((92 + (4 * v1)) + 1))))]) [3, 4, 2, 1, 0] rfl ?_
        refine jnt_X10_lends_60 hn hG (fun x36 I37 h => ?_) h
        exact ih x36 I37 h
def wp_X10_lends (I : MI) (Q : MI → Prop) : Prop :=
    (∃ N38, lp_X10_lends_2 Q N38 0 I)
set_option maxRecDepth 20000 in
theorem mt_X10_lends {E : Ev} {l : Launch} {n : Nat} {R : MR} (hn : 349 ≤ n) (hG : GRm R) {I : MI} {L : ML} {Q : MI → Prop} (h : wp_X10_lends I Q) : MX E l rm_X10_lends yX10_lends cX10_lends 7 none [.ref 336] n I L R (Qv n R (V10 I L Q)) := by
  refine MX_of (ls := [(0, .ref 336)]) (by decide) (Nat.le_of_ble_eq_true rfl) rfl ?_
  unfold wp_X10_lends at h
  refine x_iconst (v := 0) dX10_lends_0 ki_0 ?_
  refine x_istore_n (ls' := [(1, .int 0), (0, .ref 336)]) dX10_lends_1 (Nat.le_of_ble_eq_true rfl) rfl ?_
  refine x_ls (ls' := [(0, .ref 336), (1, .int 0)]) [1, 0] rfl ?_
  obtain ⟨N38, h⟩ := h
  exact lpt_X10_lends_2 hn hG  N38 0 I h
abbrev rm_X10_today : Room := { frames := 0, cells := 0, slots := 0, locals := 0 }
def jn_X10_today_76 (v1 : Int32) (v2 : Int32) (kj4 : Int32 → Int32 → Prop) : Prop :=
    kj4 v1 (v2 + 1)
set_option maxRecDepth 20000 in
theorem jnt_X10_today_76 {E : Ev} {l : Launch} {n : Nat} {R : MR} (hn : 349 ≤ n) (hG : GRm R) {Q : Int32 → Prop} {I : MI} {L : ML} {v1 : Int32} {v2 : Int32} {kj4 : Int32 → Int32 → Prop}
    (hJ4 : ∀ (v1 : Int32) (v2 : Int32), kj4 v1 v2 → X E l rm_X10_today yX10_today cX10_today 3 (some .int) noX (ZM E rm_X10_today (Qi n R (P00 I L Q))) 4 [(0, .ref 336), (1, .int v1), (2, .int v2)] [] n I L R 0 0) (h : jn_X10_today_76 v1 v2 kj4) : X E l rm_X10_today yX10_today cX10_today 3 (some .int) noX (ZM E rm_X10_today (Qi n R (P00 I L Q))) 76 [(0, .ref 336), (1, .int v1), (2, .int v2)] [] n I L R 0 0 := by
  unfold jn_X10_today_76 at h
  refine x_iinc (v := v2 + 1) (ls' := [(2, .int (v2 + 1)), (0, .ref 336), (1, .int v1)]) dX10_today_76 rfl (congrArg (_ + ·) ki_1) (Nat.le_of_ble_eq_true rfl) rfl ?_
  refine x_goto dX10_today_79 (tgt := 4) rfl ?_
  refine x_ls (ls' := [(0, .ref 336), (1, .int v1), (2, .int (v2 + 1))]) [1, 2, 0] rfl ?_
  exact hJ4 v1 (v2 + 1) h
def jn_X10_today_74 (v2 : Int32) (kj4 : Int32 → Int32 → Prop) : Prop :=
    (jn_X10_today_76 v2 v2 (fun x9 x10 => kj4 x9 x10))
set_option maxRecDepth 20000 in
theorem jnt_X10_today_74 {E : Ev} {l : Launch} {n : Nat} {R : MR} (hn : 349 ≤ n) (hG : GRm R) {Q : Int32 → Prop} {I : MI} {L : ML} {v2 : Int32} {kj4 : Int32 → Int32 → Prop}
    (hJ4 : ∀ (v1 : Int32) (v2 : Int32), kj4 v1 v2 → X E l rm_X10_today yX10_today cX10_today 3 (some .int) noX (ZM E rm_X10_today (Qi n R (P00 I L Q))) 4 [(0, .ref 336), (1, .int v1), (2, .int v2)] [] n I L R 0 0) (h : jn_X10_today_74 v2 kj4) : X E l rm_X10_today yX10_today cX10_today 3 (some .int) noX (ZM E rm_X10_today (Qi n R (P00 I L Q))) 74 [(0, .ref 336), (2, .int v2)] [] n I L R 0 0 := by
  unfold jn_X10_today_74 at h
  refine x_iload_n dX10_today_74 rfl ?_
  refine x_istore_n (ls' := [(1, .int v2), (0, .ref 336), (2, .int v2)]) dX10_today_75 (Nat.le_of_ble_eq_true rfl) rfl ?_
  refine x_ls (ls' := [(0, .ref 336), (1, .int v2), (2, .int v2)]) [1, 0, 2] rfl ?_
  refine jnt_X10_today_76 hn hG (fun x9 x10 h => ?_) h
  exact hJ4 x9 x10 h
def lp_X10_today_4 (I : MI) (Q : Int32 → Prop) : Nat → Int32 → Int32 → Prop
  | 0, _, _ => False
  | n + 1, v1, v2 =>
    (vp_in 16 2212 ∧ (((I 337 (ix 16)) ≤ v2 → Q v1) ∧ (¬ (I 337 (ix 16)) ≤ v2 → (vp_in ((1012 + (5 * v2)) + 4) 2212 ∧ (vp_in 5 2212 ∧ ((¬ (I 337 (ix ((1012 + (5 * v2)) + 4))) = (I 337 (ix 5)) → (jn_X10_today_76 v1 v2 (fun x6 x7 => (lp_X10_today_4 I Q n x6 x7)))) ∧ ((I 337 (ix ((1012 + (5 * v2)) + 4))) = (I 337 (ix 5)) → ((v1 = (-1) → (jn_X10_today_74 v2 (fun x11 x12 => (lp_X10_today_4 I Q n x11 x12)))) ∧ (¬ v1 = (-1) → (vp_in ((1012 + (5 * v2)) + 1) 2212 ∧ (vp_in ((1012 + (5 * v1)) + 1) 2212 ∧ (((I 337 (ix ((1012 + (5 * v1)) + 1))) ≤ (I 337 (ix ((1012 + (5 * v2)) + 1))) → (jn_X10_today_76 v1 v2 (fun x16 x17 => (lp_X10_today_4 I Q n x16 x17)))) ∧ (¬ (I 337 (ix ((1012 + (5 * v1)) + 1))) ≤ (I 337 (ix ((1012 + (5 * v2)) + 1))) → (jn_X10_today_74 v2 (fun x18 x19 => (lp_X10_today_4 I Q n x18 x19))))))))))))))))
set_option maxRecDepth 20000 in
theorem lpt_X10_today_4 {E : Ev} {l : Launch} {n : Nat} {R : MR} (hn : 349 ≤ n) (hG : GRm R) {Q : Int32 → Prop} {I : MI} {L : ML} : ∀ (N : Nat) (v1 : Int32) (v2 : Int32), lp_X10_today_4 I Q N v1 v2 → X E l rm_X10_today yX10_today cX10_today 3 (some .int) noX (ZM E rm_X10_today (Qi n R (P00 I L Q))) 4 [(0, .ref 336), (1, .int v1), (2, .int v2)] [] n I L R 0 0 := by
  intro N
  induction N with
  | zero => intro v1 v2 h; exact False.elim h
  | succ N ih =>
    intro v1 v2 h
    unfold lp_X10_today_4 at h
    refine x_iload_n dX10_today_4 rfl ?_
    refine x_aload_n dX10_today_5 rfl ?_
    refine x_getr (j := 337) dX10_today_6 fk_RX10_7 (km rfl hn) sh_336 (rt_336_1 hG) ?_
    refine x_bipush (v := 16) dX10_today_9 kb_16 ?_
    obtain ⟨b1, h⟩ := h
    refine x_iaload dX10_today_11 (km rfl hn) sh_337 b1 ?_
    refine x_icmp_ge dX10_today_12 (tgt := 82) rfl ⟨fun c2 => ?_, fun c2 => ?_⟩
    · have h := h.1 c2
      refine x_iload_n dX10_today_82 rfl ?_
      exact x_ireturn dX10_today_83 ⟨_, rfl, rfl, rfl, rfl, rfl, h⟩
    · have h := h.2 c2
      refine x_aload_n dX10_today_15 rfl ?_
      refine x_getr (j := 337) dX10_today_16 fk_RX10_7 (km rfl hn) sh_336 (rt_336_1 hG) ?_
      refine x_sipush (v := 1012) dX10_today_19 ks_1012 ?_
      refine x_iconst (v := 5) dX10_today_22 ki_5 ?_
      refine x_iload_n dX10_today_23 rfl ?_
      refine x_imul dX10_today_24 ?_
      refine x_iadd dX10_today_25 ?_
      refine x_iconst (v := 4) dX10_today_26 ki_4 ?_
      refine x_iadd dX10_today_27 ?_
      obtain ⟨b3, h⟩ := h
      refine x_iaload dX10_today_28 (km rfl hn) sh_337 b3 ?_
      refine x_aload_n dX10_today_29 rfl ?_
      refine x_getr (j := 337) dX10_today_30 fk_RX10_7 (km rfl hn) sh_336 (rt_336_1 hG) ?_
      refine x_iconst (v := 5) dX10_today_33 ki_5 ?_
      obtain ⟨b4, h⟩ := h
      refine x_iaload dX10_today_34 (km rfl hn) sh_337 b4 ?_
      refine x_icmp_ne dX10_today_35 (tgt := 76) rfl ⟨fun c5 => ?_, fun c5 => ?_⟩
      · have h := h.1 c5
        refine jnt_X10_today_76 hn hG (fun x6 x7 h => ?_) h
        exact ih x6 x7 h
      · have h := h.2 c5
        refine x_iload_n dX10_today_38 rfl ?_
        refine x_iconst (v := (-1)) dX10_today_39 ki_m1 ?_
        refine x_icmp_eq dX10_today_40 (tgt := 74) rfl ⟨fun c8 => ?_, fun c8 => ?_⟩
        · have h := h.1 c8
          refine x_ls (ls' := [(0, .ref 336), (2, .int v2)]) [0, 2] rfl ?_
          refine jnt_X10_today_74 hn hG (fun x11 x12 h => ?_) h
          exact ih x11 x12 h
        · have h := h.2 c8
          refine x_aload_n dX10_today_43 rfl ?_
          refine x_getr (j := 337) dX10_today_44 fk_RX10_7 (km rfl hn) sh_336 (rt_336_1 hG) ?_
          refine x_sipush (v := 1012) dX10_today_47 ks_1012 ?_
          refine x_iconst (v := 5) dX10_today_50 ki_5 ?_
          refine x_iload_n dX10_today_51 rfl ?_
          refine x_imul dX10_today_52 ?_
          refine x_iadd dX10_today_53 ?_
          refine x_iconst (v := 1) dX10_today_54 ki_1 ?_
          refine x_iadd dX10_today_55 ?_
          obtain ⟨b13, h⟩ := h
          refine x_iaload dX10_today_56 (km rfl hn) sh_337 b13 ?_
          refine x_aload_n dX10_today_57 rfl ?_
          refine x_getr (j := 337) dX10_today_58 fk_RX10_7 (km rfl hn) sh_336 (rt_336_1 hG) ?_
          refine x_sipush (v := 1012) dX10_today_61 ks_1012 ?_
          refine x_iconst (v := 5) dX10_today_64 ki_5 ?_
          refine x_iload_n dX10_today_65 rfl ?_
          refine x_imul dX10_today_66 ?_
          refine x_iadd dX10_today_67 ?_
          refine x_iconst (v := 1) dX10_today_68 ki_1 ?_
          refine x_iadd dX10_today_69 ?_
          obtain ⟨b14, h⟩ := h
          refine x_iaload dX10_today_70 (km rfl hn) sh_337 b14 ?_
          refine x_icmp_ge dX10_today_71 (tgt := 76) rfl ⟨fun c15 => ?_, fun c15 => ?_⟩
          · have h := h.1 c15
            refine jnt_X10_today_76 hn hG (fun x16 x17 h => ?_) h
            exact ih x16 x17 h
          · have h := h.2 c15
            refine x_ls (ls' := [(0, .ref 336), (2, .int v2)]) [0, 2] rfl ?_
            refine jnt_X10_today_74 hn hG (fun x18 x19 h => ?_) h
            exact ih x18 x19 h
def wp_X10_today (I : MI) (Q : Int32 → Prop) : Prop :=
    (∃ N20, lp_X10_today_4 I Q N20 (-1) 0)
set_option maxRecDepth 20000 in
theorem mt_X10_today {E : Ev} {l : Launch} {n : Nat} {R : MR} (hn : 349 ≤ n) (hG : GRm R) {I : MI} {L : ML} {Q : Int32 → Prop} (h : wp_X10_today I Q) : MX E l rm_X10_today yX10_today cX10_today 3 (some .int) [.ref 336] n I L R (Qi n R (P00 I L Q)) := by
  refine MX_of (ls := [(0, .ref 336)]) (by decide) (Nat.le_of_ble_eq_true rfl) rfl ?_
  unfold wp_X10_today at h
  refine x_iconst (v := (-1)) dX10_today_0 ki_m1 ?_
  refine x_istore_n (ls' := [(1, .int (-1)), (0, .ref 336)]) dX10_today_1 (Nat.le_of_ble_eq_true rfl) rfl ?_
  refine x_iconst (v := 0) dX10_today_2 ki_0 ?_
  refine x_istore_n (ls' := [(2, .int 0), (1, .int (-1)), (0, .ref 336)]) dX10_today_3 (Nat.le_of_ble_eq_true rfl) rfl ?_
  refine x_ls (ls' := [(0, .ref 336), (1, .int (-1)), (2, .int 0)]) [2, 1, 0] rfl ?_
  obtain ⟨N20, h⟩ := h
  exact lpt_X10_today_4 hn hG  N20 (-1) 0 h
abbrev rm_X10_goesDay : Room := { frames := 4, cells := 0, slots := 0, locals := 97 }
def lp_X10_goesDay_15 (kf33 : MI → Prop) : Nat → Int32 → MI → Prop
  | 0, _, _ => False
  | n + 1, v1, I =>
    ((v1 = (-1) → kf33 I) ∧ (¬ v1 = (-1) → (wp_X10_arrives I v1 (fun I6 => ((wp_X10_today I6 (fun x7 => ((lp_X10_goesDay_15 kf33 n x7 I6)))))))))
set_option maxRecDepth 20000 in
theorem lpt_X10_goesDay_15 {E : Ev} {l : Launch} {n : Nat} {R : MR} (hn : 349 ≤ n) (hG : GRm R) {I0 : MI} {Q : MI → Prop} {L : ML} {kf33 : MI → Prop}
    (hK33 : ∀ (I : MI), kf33 I → X E l rm_X10_goesDay yX10_goesDay cX10_goesDay 2 none noX (ZM E rm_X10_goesDay (Qv n R (V10 I0 L Q))) 33 [(0, .ref 336)] [] n I L R 0 0) : ∀ (N : Nat) (v1 : Int32) (I : MI), lp_X10_goesDay_15 kf33 N v1 I → X E l rm_X10_goesDay yX10_goesDay cX10_goesDay 2 none noX (ZM E rm_X10_goesDay (Qv n R (V10 I0 L Q))) 15 [(0, .ref 336), (1, .int v1)] [] n I L R 0 0 := by
  intro N
  induction N with
  | zero => intro v1 I h; exact False.elim h
  | succ N ih =>
    intro v1 I h
    unfold lp_X10_goesDay_15 at h
    refine x_iload_n dX10_goesDay_15 rfl ?_
    refine x_iconst (v := (-1)) dX10_goesDay_16 ki_m1 ?_
    refine x_icmp_eq dX10_goesDay_17 (tgt := 33) rfl ⟨fun c5 => ?_, fun c5 => ?_⟩
    · have h := h.1 c5
      refine x_ls (ls' := [(0, .ref 336)]) [0] rfl ?_
      exact hK33 I h
    · have h := h.2 c5
      refine x_aload_n dX10_goesDay_20 rfl ?_
      refine x_iload_n dX10_goesDay_21 rfl ?_
      refine x_cVv10 [.int v1] (mt_X10_arrives hn hG h) dX10_goesDay_22 lk_RX10_191 (km rfl hn) sh_336 rfl rfl (Nat.le_of_ble_eq_true rfl) (Rf_of rfl) (fun I6 h => ?_)
      refine x_aload_n dX10_goesDay_25 rfl ?_
      refine x_cVi00 [] (mt_X10_today hn hG h) dX10_goesDay_26 lk_RX10_188 (km rfl hn) sh_336 rfl rfl (Nat.le_of_ble_eq_true rfl) (Rf_of rfl) (fun x7 h => ?_)
      refine x_istore_n (ls' := [(1, .int x7), (0, .ref 336)]) dX10_goesDay_29 (Nat.le_of_ble_eq_true rfl) rfl ?_
      refine x_goto dX10_goesDay_30 (tgt := 15) rfl ?_
      refine x_ls (ls' := [(0, .ref 336), (1, .int x7)]) [1, 0] rfl ?_
      exact ih x7 I6 h
def wp_X10_goesDay (I : MI) (Q : MI → Prop) : Prop :=
    (vp_in 5 2212 ∧ (vp_in 5 2212 ∧ (∀ I3, I3 = u2 I 337 (ix 5) ((I 337 (ix 5)) + 1) → (wp_X10_today I3 (fun x4 => ((∃ N8, lp_X10_goesDay_15 (fun I9 => (wp_X10_lends I9 (fun I10 => (Q I10)))) N8 x4 I3)))))))
set_option maxRecDepth 20000 in
theorem mt_X10_goesDay {E : Ev} {l : Launch} {n : Nat} {R : MR} (hn : 349 ≤ n) (hG : GRm R) {I : MI} {L : ML} {Q : MI → Prop} (h : wp_X10_goesDay I Q) : MX E l rm_X10_goesDay yX10_goesDay cX10_goesDay 2 none [.ref 336] n I L R (Qv n R (V10 I L Q)) := by
  refine MX_of (ls := [(0, .ref 336)]) (by decide) (Nat.le_of_ble_eq_true rfl) rfl ?_
  unfold wp_X10_goesDay at h
  refine x_aload_n dX10_goesDay_0 rfl ?_
  refine x_getr (j := 337) dX10_goesDay_1 fk_RX10_7 (km rfl hn) sh_336 (rt_336_1 hG) ?_
  refine x_iconst (v := 5) dX10_goesDay_4 ki_5 ?_
  refine x_dup2 dX10_goesDay_5 rfl rfl ?_
  obtain ⟨b1, h⟩ := h
  refine x_iaload dX10_goesDay_6 (km rfl hn) sh_337 b1 ?_
  refine x_iconst (v := 1) dX10_goesDay_7 ki_1 ?_
  refine x_iadd dX10_goesDay_8 ?_
  obtain ⟨b2, h⟩ := h
  refine x_iastore dX10_goesDay_9 (km rfl hn) sh_337 b2 (fun I3 eI3 => ?_)
  have h := h I3 eI3
  refine x_aload_n dX10_goesDay_10 rfl ?_
  refine x_cVi00 [] (mt_X10_today hn hG h) dX10_goesDay_11 lk_RX10_188 (km rfl hn) sh_336 rfl rfl (Nat.le_of_ble_eq_true rfl) (Rf_of rfl) (fun x4 h => ?_)
  refine x_istore_n (ls' := [(1, .int x4), (0, .ref 336)]) dX10_goesDay_14 (Nat.le_of_ble_eq_true rfl) rfl ?_
  refine x_ls (ls' := [(0, .ref 336), (1, .int x4)]) [1, 0] rfl ?_
  obtain ⟨N8, h⟩ := h
  refine lpt_X10_goesDay_15 hn hG (fun I9 h => ?_) N8 x4 I3 h
  refine x_aload_n dX10_goesDay_33 rfl ?_
  refine x_cVv10 [] (mt_X10_lends hn hG h) dX10_goesDay_34 lk_RX10_194 (km rfl hn) sh_336 rfl rfl (Nat.le_of_ble_eq_true rfl) (Rf_of rfl) (fun I10 h => ?_)
  exact x_return dX10_goesDay_37 ⟨rfl, rfl, rfl, rfl, h⟩
abbrev rm_X10_runs : Room := { frames := 5, cells := 0, slots := 0, locals := 118 }
def jn_X10_runs_114 (I : MI) (v6 : Int32) (kj39 : Int32 → MI → Prop) : Prop :=
    kj39 (v6 + 1) I
set_option maxRecDepth 20000 in
theorem jnt_X10_runs_114 {E : Ev} {l : Launch} {n : Nat} {R : MR} (hn : 349 ≤ n) (hG : GRm R) {I0 : MI} {Q : Int32 → MI → Prop} {I : MI} {L : ML} {v1 : Int32} {v3 : Int32} {v4 : Int32} {v5 : Int32} {v6 : Int32} {kj39 : Int32 → MI → Prop}
    (hJ39 : ∀ (v6 : Int32) (I : MI), kj39 v6 I → X E l rm_X10_runs yX10_runs cX10_runs 8 (some .int) noX (ZM E rm_X10_runs (Qi n R (P10 I0 L Q))) 39 [(0, .ref 336), (1, .int v1), (3, .int v3), (4, .int v4), (5, .int v5), (6, .int v6)] [] n I L R 0 0) (h : jn_X10_runs_114 I v6 kj39) : X E l rm_X10_runs yX10_runs cX10_runs 8 (some .int) noX (ZM E rm_X10_runs (Qi n R (P10 I0 L Q))) 114 [(0, .ref 336), (1, .int v1), (3, .int v3), (4, .int v4), (5, .int v5), (6, .int v6)] [] n I L R 0 0 := by
  unfold jn_X10_runs_114 at h
  refine x_iinc (v := v6 + 1) (ls' := [(6, .int (v6 + 1)), (0, .ref 336), (1, .int v1), (3, .int v3), (4, .int v4), (5, .int v5)]) dX10_runs_114 rfl (congrArg (_ + ·) ki_1) (Nat.le_of_ble_eq_true rfl) rfl ?_
  refine x_goto dX10_runs_117 (tgt := 39) rfl ?_
  refine x_ls (ls' := [(0, .ref 336), (1, .int v1), (3, .int v3), (4, .int v4), (5, .int v5), (6, .int (v6 + 1))]) [1, 2, 3, 4, 5, 0] rfl ?_
  exact hJ39 (v6 + 1) I h
def lp_X10_runs_39 (v5 : Int32) (kf120 : MI → Prop) : Nat → Int32 → MI → Prop
  | 0, _, _ => False
  | n + 1, v6, I =>
    (vp_in 0 2212 ∧ (((I 337 (ix 0)) ≤ v6 → kf120 I) ∧ (¬ (I 337 (ix 0)) ≤ v6 → (∀ I8, I8 = u2 I 336 13 (((I 336 13) * 1103515245) + 12345) → (wp_X10_cellOf v5 v6 (fun x9 => ((vp_in (41 + x9) 2212 ∧ (((I8 337 (ix (41 + x9))) ≤ ((usr (I8 336 13) 8) - (usr (I8 336 13) 8) / 12 * 12) → (jn_X10_runs_114 I8 v6 (fun x12 I13 => (lp_X10_runs_39 v5 kf120 n x12 I13)))) ∧ (¬ (I8 337 (ix (41 + x9))) ≤ ((usr (I8 336 13) 8) - (usr (I8 336 13) 8) / 12 * 12) → (wp_X10_canBreak I8 v5 v6 (fun x14 => (((x14 = 0 → (jn_X10_runs_114 I8 v6 (fun x16 I17 => (lp_X10_runs_39 v5 kf120 n x16 I17)))) ∧ (¬ x14 = 0 → (wp_X10_breaksOne I8 v5 v6 (fun x18 I19 => ((jn_X10_runs_114 I19 v6 (fun x20 I21 => (lp_X10_runs_39 v5 kf120 n x20 I21)))))))))))))))))))))
set_option maxRecDepth 20000 in
theorem lpt_X10_runs_39 {E : Ev} {l : Launch} {n : Nat} {R : MR} (hn : 349 ≤ n) (hG : GRm R) {I0 : MI} {Q : Int32 → MI → Prop} {v1 : Int32} {v3 : Int32} {v4 : Int32} {v5 : Int32} {L : ML} {kf120 : MI → Prop}
    (hK120 : ∀ (I : MI), kf120 I → X E l rm_X10_runs yX10_runs cX10_runs 8 (some .int) noX (ZM E rm_X10_runs (Qi n R (P10 I0 L Q))) 120 [(0, .ref 336), (1, .int v1), (3, .int v3), (4, .int v4), (5, .int v5)] [] n I L R 0 0) : ∀ (N : Nat) (v6 : Int32) (I : MI), lp_X10_runs_39 v5 kf120 N v6 I → X E l rm_X10_runs yX10_runs cX10_runs 8 (some .int) noX (ZM E rm_X10_runs (Qi n R (P10 I0 L Q))) 39 [(0, .ref 336), (1, .int v1), (3, .int v3), (4, .int v4), (5, .int v5), (6, .int v6)] [] n I L R 0 0 := by
  intro N
  induction N with
  | zero => intro v6 I h; exact False.elim h
  | succ N ih =>
    intro v6 I h
    unfold lp_X10_runs_39 at h
    refine x_iload dX10_runs_39 rfl ?_
    refine x_aload_n dX10_runs_41 rfl ?_
    refine x_getr (j := 337) dX10_runs_42 fk_RX10_7 (km rfl hn) sh_336 (rt_336_1 hG) ?_
    refine x_iconst (v := 0) dX10_runs_45 ki_0 ?_
    obtain ⟨b6, h⟩ := h
    refine x_iaload dX10_runs_46 (km rfl hn) sh_337 b6 ?_
    refine x_icmp_ge dX10_runs_47 (tgt := 120) rfl ⟨fun c7 => ?_, fun c7 => ?_⟩
    · have h := h.1 c7
      refine x_ls (ls' := [(0, .ref 336), (1, .int v1), (3, .int v3), (4, .int v4), (5, .int v5)]) [0, 1, 2, 3, 4] rfl ?_
      exact hK120 I h
    · have h := h.2 c7
      refine x_aload_n dX10_runs_50 rfl ?_
      refine x_aload_n dX10_runs_51 rfl ?_
      refine x_geti dX10_runs_52 fk_RX10_197 (km rfl hn) sh_336 ?_
      refine x_ldc (v := 1103515245) dX10_runs_55 kc_RX10_200 ?_
      refine x_imul dX10_runs_57 ?_
      refine x_sipush (v := 12345) dX10_runs_58 ks_12345 ?_
      refine x_iadd dX10_runs_61 ?_
      refine x_puti dX10_runs_62 fk_RX10_197 fw_8_13 (vp_nar_int _) rfl (km rfl hn) sh_336 (fun I8 eI8 => ?_)
      have h := h I8 eI8
      refine x_aload_n dX10_runs_65 rfl ?_
      refine x_geti dX10_runs_66 fk_RX10_197 (km rfl hn) sh_336 ?_
      refine x_bipush (v := 8) dX10_runs_69 kb_8 ?_
      refine x_iushr dX10_runs_71 ?_
      refine x_bipush (v := 12) dX10_runs_72 kb_12 ?_
      refine x_irem dX10_runs_74 (by decide) ?_
      refine x_aload_n dX10_runs_75 rfl ?_
      refine x_getr (j := 337) dX10_runs_76 fk_RX10_7 (km rfl hn) sh_336 (rt_336_1 hG) ?_
      refine x_bipush (v := 41) dX10_runs_79 kb_41 ?_
      refine x_iload dX10_runs_81 rfl ?_
      refine x_iload dX10_runs_83 rfl ?_
      refine x_cSi00 [.int v5, .int v6] (mt_X10_cellOf hn hG h) dX10_runs_85 lk_RX10_104 rfl rfl (Nat.le_of_ble_eq_true rfl) (Rf_of rfl) (fun x9 h => ?_)
      refine x_iadd dX10_runs_88 ?_
      obtain ⟨b10, h⟩ := h
      refine x_iaload dX10_runs_89 (km rfl hn) sh_337 b10 ?_
      refine x_icmp_ge dX10_runs_90 (tgt := 114) rfl ⟨fun c11 => ?_, fun c11 => ?_⟩
      · have h := h.1 c11
        refine jnt_X10_runs_114 hn hG (fun x12 I13 h => ?_) h
        exact ih x12 I13 h
      · have h := h.2 c11
        refine x_aload_n dX10_runs_93 rfl ?_
        refine x_iload dX10_runs_94 rfl ?_
        refine x_iload dX10_runs_96 rfl ?_
        refine x_cVi00 [.int v5, .int v6] (mt_X10_canBreak hn hG h) dX10_runs_98 lk_RX10_201 (km rfl hn) sh_336 rfl rfl (Nat.le_of_ble_eq_true rfl) (Rf_of rfl) (fun x14 h => ?_)
        refine x_if_eq dX10_runs_101 (tgt := 114) rfl ⟨fun c15 => ?_, fun c15 => ?_⟩
        · have h := h.1 c15
          refine jnt_X10_runs_114 hn hG (fun x16 I17 h => ?_) h
          exact ih x16 I17 h
        · have h := h.2 c15
          refine x_aload_n dX10_runs_104 rfl ?_
          refine x_iload dX10_runs_105 rfl ?_
          refine x_iload dX10_runs_107 rfl ?_
          refine x_cVi10 [.int v5, .int v6] (mt_X10_breaksOne hn hG h) dX10_runs_109 lk_RX10_205 (km rfl hn) sh_336 rfl rfl (Nat.le_of_ble_eq_true rfl) (Rf_of rfl) (fun x18 I19 h => ?_)
          refine x_istore (ls' := [(7, .int x18), (0, .ref 336), (1, .int v1), (3, .int v3), (4, .int v4), (5, .int v5), (6, .int v6)]) dX10_runs_112 (Nat.le_of_ble_eq_true rfl) rfl ?_
          refine x_ls (ls' := [(0, .ref 336), (1, .int v1), (3, .int v3), (4, .int v4), (5, .int v5), (6, .int v6)]) [1, 2, 3, 4, 5, 6] rfl ?_
          refine jnt_X10_runs_114 hn hG (fun x20 I21 h => ?_) h
          exact ih x20 I21 h
def lp_X10_runs_25 (kf126 : MI → Prop) : Nat → Int32 → MI → Prop
  | 0, _, _ => False
  | n + 1, v5, I =>
    (vp_in 1 2212 ∧ (((I 337 (ix 1)) ≤ v5 → kf126 I) ∧ (¬ (I 337 (ix 1)) ≤ v5 → (∃ N22, lp_X10_runs_39 v5 (fun I23 => (lp_X10_runs_25 kf126 n (v5 + 1) I23)) N22 0 I))))
set_option maxRecDepth 20000 in
theorem lpt_X10_runs_25 {E : Ev} {l : Launch} {n : Nat} {R : MR} (hn : 349 ≤ n) (hG : GRm R) {I0 : MI} {Q : Int32 → MI → Prop} {v1 : Int32} {v3 : Int32} {v4 : Int32} {L : ML} {kf126 : MI → Prop}
    (hK126 : ∀ (I : MI), kf126 I → X E l rm_X10_runs yX10_runs cX10_runs 8 (some .int) noX (ZM E rm_X10_runs (Qi n R (P10 I0 L Q))) 126 [(0, .ref 336), (1, .int v1), (3, .int v3), (4, .int v4)] [] n I L R 0 0) : ∀ (N : Nat) (v5 : Int32) (I : MI), lp_X10_runs_25 kf126 N v5 I → X E l rm_X10_runs yX10_runs cX10_runs 8 (some .int) noX (ZM E rm_X10_runs (Qi n R (P10 I0 L Q))) 25 [(0, .ref 336), (1, .int v1), (3, .int v3), (4, .int v4), (5, .int v5)] [] n I L R 0 0 := by
  intro N
  induction N with
  | zero => intro v5 I h; exact False.elim h
  | succ N ih =>
    intro v5 I h
    unfold lp_X10_runs_25 at h
    refine x_iload dX10_runs_25 rfl ?_
    refine x_aload_n dX10_runs_27 rfl ?_
    refine x_getr (j := 337) dX10_runs_28 fk_RX10_7 (km rfl hn) sh_336 (rt_336_1 hG) ?_
    refine x_iconst (v := 1) dX10_runs_31 ki_1 ?_
    obtain ⟨b4, h⟩ := h
    refine x_iaload dX10_runs_32 (km rfl hn) sh_337 b4 ?_
    refine x_icmp_ge dX10_runs_33 (tgt := 126) rfl ⟨fun c5 => ?_, fun c5 => ?_⟩
    · have h := h.1 c5
      refine x_ls (ls' := [(0, .ref 336), (1, .int v1), (3, .int v3), (4, .int v4)]) [0, 1, 2, 3] rfl ?_
      exact hK126 I h
    · have h := h.2 c5
      refine x_iconst (v := 0) dX10_runs_36 ki_0 ?_
      refine x_istore (ls' := [(6, .int 0), (0, .ref 336), (1, .int v1), (3, .int v3), (4, .int v4), (5, .int v5)]) dX10_runs_37 (Nat.le_of_ble_eq_true rfl) rfl ?_
      refine x_ls (ls' := [(0, .ref 336), (1, .int v1), (3, .int v3), (4, .int v4), (5, .int v5), (6, .int 0)]) [1, 2, 3, 4, 5, 0] rfl ?_
      obtain ⟨N22, h⟩ := h
      refine lpt_X10_runs_39 hn hG (fun I23 h => ?_) N22 0 I h
      refine x_iinc (v := v5 + 1) (ls' := [(5, .int (v5 + 1)), (0, .ref 336), (1, .int v1), (3, .int v3), (4, .int v4)]) dX10_runs_120 rfl (congrArg (_ + ·) ki_1) (Nat.le_of_ble_eq_true rfl) rfl ?_
      refine x_goto dX10_runs_123 (tgt := 25) rfl ?_
      refine x_ls (ls' := [(0, .ref 336), (1, .int v1), (3, .int v3), (4, .int v4), (5, .int (v5 + 1))]) [1, 2, 3, 4, 0] rfl ?_
      exact ih (v5 + 1) I23 h
def lp_X10_runs_16 (v1 : Int32) (kf136 : MI → Prop) : Nat → Int32 → MI → Prop
  | 0, _, _ => False
  | n + 1, v4, I =>
    ((v1 ≤ v4 → kf136 I) ∧ (¬ v1 ≤ v4 → (∃ N24, lp_X10_runs_25 (fun I25 => (wp_X10_goesDay I25 (fun I26 => ((lp_X10_runs_16 v1 kf136 n (v4 + 1) I26))))) N24 0 I)))
set_option maxRecDepth 20000 in
theorem lpt_X10_runs_16 {E : Ev} {l : Launch} {n : Nat} {R : MR} (hn : 349 ≤ n) (hG : GRm R) {I0 : MI} {Q : Int32 → MI → Prop} {v1 : Int32} {v3 : Int32} {L : ML} {kf136 : MI → Prop}
    (hK136 : ∀ (I : MI), kf136 I → X E l rm_X10_runs yX10_runs cX10_runs 8 (some .int) noX (ZM E rm_X10_runs (Qi n R (P10 I0 L Q))) 136 [(0, .ref 336), (3, .int v3)] [] n I L R 0 0) : ∀ (N : Nat) (v4 : Int32) (I : MI), lp_X10_runs_16 v1 kf136 N v4 I → X E l rm_X10_runs yX10_runs cX10_runs 8 (some .int) noX (ZM E rm_X10_runs (Qi n R (P10 I0 L Q))) 16 [(0, .ref 336), (1, .int v1), (3, .int v3), (4, .int v4)] [] n I L R 0 0 := by
  intro N
  induction N with
  | zero => intro v4 I h; exact False.elim h
  | succ N ih =>
    intro v4 I h
    unfold lp_X10_runs_16 at h
    refine x_iload dX10_runs_16 rfl ?_
    refine x_iload_n dX10_runs_18 rfl ?_
    refine x_icmp_ge dX10_runs_19 (tgt := 136) rfl ⟨fun c3 => ?_, fun c3 => ?_⟩
    · have h := h.1 c3
      refine x_ls (ls' := [(0, .ref 336), (3, .int v3)]) [0, 2] rfl ?_
      exact hK136 I h
    · have h := h.2 c3
      refine x_iconst (v := 0) dX10_runs_22 ki_0 ?_
      refine x_istore (ls' := [(5, .int 0), (0, .ref 336), (1, .int v1), (3, .int v3), (4, .int v4)]) dX10_runs_23 (Nat.le_of_ble_eq_true rfl) rfl ?_
      refine x_ls (ls' := [(0, .ref 336), (1, .int v1), (3, .int v3), (4, .int v4), (5, .int 0)]) [1, 2, 3, 4, 0] rfl ?_
      obtain ⟨N24, h⟩ := h
      refine lpt_X10_runs_25 hn hG (fun I25 h => ?_) N24 0 I h
      refine x_aload_n dX10_runs_126 rfl ?_
      refine x_cVv10 [] (mt_X10_goesDay hn hG h) dX10_runs_127 lk_RX10_208 (km rfl hn) sh_336 rfl rfl (Nat.le_of_ble_eq_true rfl) (Rf_of rfl) (fun I26 h => ?_)
      refine x_iinc (v := v4 + 1) (ls' := [(4, .int (v4 + 1)), (0, .ref 336), (1, .int v1), (3, .int v3)]) dX10_runs_130 rfl (congrArg (_ + ·) ki_1) (Nat.le_of_ble_eq_true rfl) rfl ?_
      refine x_goto dX10_runs_133 (tgt := 16) rfl ?_
      refine x_ls (ls' := [(0, .ref 336), (1, .int v1), (3, .int v3), (4, .int (v4 + 1))]) [1, 2, 3, 0] rfl ?_
      exact ih (v4 + 1) I26 h
def wp_X10_runs (I : MI) (v1 : Int32) (v2 : Int32) (Q : Int32 → MI → Prop) : Prop :=
    (∀ I1, I1 = u2 I 336 13 v2 → (vp_in 6 2212 ∧ (∃ N27, lp_X10_runs_16 v1 (fun I28 => (vp_in 6 2212 ∧ Q ((I28 337 (ix 6)) - (I1 337 (ix 6))) I28)) N27 0 I1)))
set_option maxRecDepth 20000 in
theorem mt_X10_runs {E : Ev} {l : Launch} {n : Nat} {R : MR} (hn : 349 ≤ n) (hG : GRm R) {I : MI} {L : ML} {v1 : Int32} {v2 : Int32} {Q : Int32 → MI → Prop} (h : wp_X10_runs I v1 v2 Q) : MX E l rm_X10_runs yX10_runs cX10_runs 8 (some .int) [.ref 336, .int v1, .int v2] n I L R (Qi n R (P10 I L Q)) := by
  refine MX_of (ls := [(0, .ref 336), (1, .int v1), (2, .int v2)]) (by decide) (Nat.le_of_ble_eq_true rfl) rfl ?_
  unfold wp_X10_runs at h
  refine x_aload_n dX10_runs_0 rfl ?_
  refine x_iload_n dX10_runs_1 rfl ?_
  refine x_puti dX10_runs_2 fk_RX10_197 fw_8_13 (vp_nar_int _) rfl (km rfl hn) sh_336 (fun I1 eI1 => ?_)
  have h := h I1 eI1
  refine x_aload_n dX10_runs_5 rfl ?_
  refine x_getr (j := 337) dX10_runs_6 fk_RX10_7 (km rfl hn) sh_336 (rt_336_1 hG) ?_
  refine x_bipush (v := 6) dX10_runs_9 kb_6 ?_
  obtain ⟨b2, h⟩ := h
  refine x_iaload dX10_runs_11 (km rfl hn) sh_337 b2 ?_
  refine x_istore_n (ls' := [(3, .int (I1 337 (ix 6))), (0, .ref 336), (1, .int v1), (2, .int v2)]) dX10_runs_12 (Nat.le_of_ble_eq_true rfl) rfl ?_
  refine x_iconst (v := 0) dX10_runs_13 ki_0 ?_
  refine x_istore (ls' := [(4, .int 0), (3, .int (I1 337 (ix 6))), (0, .ref 336), (1, .int v1), (2, .int v2)]) dX10_runs_14 (Nat.le_of_ble_eq_true rfl) rfl ?_
  refine x_ls (ls' := [(0, .ref 336), (1, .int v1), (3, .int (I1 337 (ix 6))), (4, .int 0)]) [2, 3, 1, 0] rfl ?_
  obtain ⟨N27, h⟩ := h
  refine lpt_X10_runs_16 hn hG (fun I28 h => ?_) N27 0 I1 h
  refine x_aload_n dX10_runs_136 rfl ?_
  refine x_getr (j := 337) dX10_runs_137 fk_RX10_7 (km rfl hn) sh_336 (rt_336_1 hG) ?_
  refine x_bipush (v := 6) dX10_runs_140 kb_6 ?_
  obtain ⟨b29, h⟩ := h
  refine x_iaload dX10_runs_142 (km rfl hn) sh_337 b29 ?_
  refine x_iload_n dX10_runs_143 rfl ?_
  refine x_isub dX10_runs_144 ?_
  exact x_ireturn dX10_runs_145 ⟨_, rfl, rfl, rfl, rfl, h⟩
abbrev rm_X10_breaks : Room := { frames := 4, cells := 0, slots := 0, locals := 98 }
def wp_X10_breaks (I : MI) (v1 : Int32) (v2 : Int32) (Q : Int32 → MI → Prop) : Prop :=
    (wp_X10_isCell I v1 v2 (fun x1 => (((x1 = 0 → Q (-1) I) ∧ (¬ x1 = 0 → (wp_X10_canBreak I v1 v2 (fun x3 => (((¬ x3 = 0 → (wp_X10_remembers I (fun I5 => ((wp_X10_breaksOne I5 v1 v2 (fun x6 I7 => (Q x6 I7))))))) ∧ (x3 = 0 → Q (-1) I))))))))))
set_option maxRecDepth 20000 in
theorem mt_X10_breaks {E : Ev} {l : Launch} {n : Nat} {R : MR} (hn : 349 ≤ n) (hG : GRm R) {I : MI} {L : ML} {v1 : Int32} {v2 : Int32} {Q : Int32 → MI → Prop} (h : wp_X10_breaks I v1 v2 Q) : MX E l rm_X10_breaks yX10_breaks cX10_breaks 3 (some .int) [.ref 336, .int v1, .int v2] n I L R (Qi n R (P10 I L Q)) := by
  refine MX_of (ls := [(0, .ref 336), (1, .int v1), (2, .int v2)]) (by decide) (Nat.le_of_ble_eq_true rfl) rfl ?_
  unfold wp_X10_breaks at h
  refine x_aload_n dX10_breaks_0 rfl ?_
  refine x_iload_n dX10_breaks_1 rfl ?_
  refine x_iload_n dX10_breaks_2 rfl ?_
  refine x_cVi00 [.int v1, .int v2] (mt_X10_isCell hn hG h) dX10_breaks_3 lk_RX10_211 (km rfl hn) sh_336 rfl rfl (Nat.le_of_ble_eq_true rfl) (Rf_of rfl) (fun x1 h => ?_)
  refine x_if_eq dX10_breaks_6 (tgt := 18) rfl ⟨fun c2 => ?_, fun c2 => ?_⟩
  · have h := h.1 c2
    refine x_iconst (v := (-1)) dX10_breaks_18 ki_m1 ?_
    exact x_ireturn dX10_breaks_19 ⟨_, rfl, rfl, rfl, rfl, h⟩
  · have h := h.2 c2
    refine x_aload_n dX10_breaks_9 rfl ?_
    refine x_iload_n dX10_breaks_10 rfl ?_
    refine x_iload_n dX10_breaks_11 rfl ?_
    refine x_cVi00 [.int v1, .int v2] (mt_X10_canBreak hn hG h) dX10_breaks_12 lk_RX10_201 (km rfl hn) sh_336 rfl rfl (Nat.le_of_ble_eq_true rfl) (Rf_of rfl) (fun x3 h => ?_)
    refine x_if_ne dX10_breaks_15 (tgt := 20) rfl ⟨fun c4 => ?_, fun c4 => ?_⟩
    · have h := h.1 c4
      refine x_aload_n dX10_breaks_20 rfl ?_
      refine x_cVv10 [] (mt_X10_remembers hn hG h) dX10_breaks_21 lk_RX10_214 (km rfl hn) sh_336 rfl rfl (Nat.le_of_ble_eq_true rfl) (Rf_of rfl) (fun I5 h => ?_)
      refine x_aload_n dX10_breaks_24 rfl ?_
      refine x_iload_n dX10_breaks_25 rfl ?_
      refine x_iload_n dX10_breaks_26 rfl ?_
      refine x_cVi10 [.int v1, .int v2] (mt_X10_breaksOne hn hG h) dX10_breaks_27 lk_RX10_205 (km rfl hn) sh_336 rfl rfl (Nat.le_of_ble_eq_true rfl) (Rf_of rfl) (fun x6 I7 h => ?_)
      exact x_ireturn dX10_breaks_30 ⟨_, rfl, rfl, rfl, rfl, h⟩
    · have h := h.2 c4
      refine x_iconst (v := (-1)) dX10_breaks_18 ki_m1 ?_
      exact x_ireturn dX10_breaks_19 ⟨_, rfl, rfl, rfl, rfl, h⟩
abbrev rm_X10_buy : Room := { frames := 3, cells := 0, slots := 0, locals := 65 }
def wp_X10_buy (I : MI) (v1 : Int32) (v2 : Int32) (Q : Int32 → MI → Prop) : Prop :=
    (wp_X10_isCell I v1 v2 (fun x1 => (((x1 = 0 → Q (-1) I) ∧ (¬ x1 = 0 → (wp_X10_cellOf v1 v2 (fun x3 => ((vp_in (50 + x3) 2212 ∧ ((¬ (I 337 (ix (50 + x3))) = 9 → (wp_X10_remembers I (fun I6 => ((wp_X10_cellOf v1 v2 (fun x7 => ((vp_in (50 + x7) 2212 ∧ (vp_in (50 + x7) 2212 ∧ (∀ I10, I10 = u2 I6 337 (ix (50 + x7)) ((I6 337 (ix (50 + x7))) + 1) → (wp_X10_comes I10 v1 v2 (fun I11 => ((wp_X10_cellOf v1 v2 (fun x12 => ((vp_in (50 + x12) 2212 ∧ Q (I11 337 (ix (50 + x12))) I11))))))))))))))))) ∧ ((I 337 (ix (50 + x3))) = 9 → Q (-1) I)))))))))))
set_option maxRecDepth 20000 in
theorem mt_X10_buy {E : Ev} {l : Launch} {n : Nat} {R : MR} (hn : 349 ≤ n) (hG : GRm R) {I : MI} {L : ML} {v1 : Int32} {v2 : Int32} {Q : Int32 → MI → Prop} (h : wp_X10_buy I v1 v2 Q) : MX E l rm_X10_buy yX10_buy cX10_buy 3 (some .int) [.ref 336, .int v1, .int v2] n I L R (Qi n R (P10 I L Q)) := by
  refine MX_of (ls := [(0, .ref 336), (1, .int v1), (2, .int v2)]) (by decide) (Nat.le_of_ble_eq_true rfl) rfl ?_
  unfold wp_X10_buy at h
  refine x_aload_n dX10_buy_0 rfl ?_
  refine x_iload_n dX10_buy_1 rfl ?_
  refine x_iload_n dX10_buy_2 rfl ?_
  refine x_cVi00 [.int v1, .int v2] (mt_X10_isCell hn hG h) dX10_buy_3 lk_RX10_211 (km rfl hn) sh_336 rfl rfl (Nat.le_of_ble_eq_true rfl) (Rf_of rfl) (fun x1 h => ?_)
  refine x_if_eq dX10_buy_6 (tgt := 27) rfl ⟨fun c2 => ?_, fun c2 => ?_⟩
  · have h := h.1 c2
    refine x_iconst (v := (-1)) dX10_buy_27 ki_m1 ?_
    exact x_ireturn dX10_buy_28 ⟨_, rfl, rfl, rfl, rfl, h⟩
  · have h := h.2 c2
    refine x_aload_n dX10_buy_9 rfl ?_
    refine x_getr (j := 337) dX10_buy_10 fk_RX10_7 (km rfl hn) sh_336 (rt_336_1 hG) ?_
    refine x_bipush (v := 50) dX10_buy_13 kb_50 ?_
    refine x_iload_n dX10_buy_15 rfl ?_
    refine x_iload_n dX10_buy_16 rfl ?_
    refine x_cSi00 [.int v1, .int v2] (mt_X10_cellOf hn hG h) dX10_buy_17 lk_RX10_104 rfl rfl (Nat.le_of_ble_eq_true rfl) (Rf_of rfl) (fun x3 h => ?_)
    refine x_iadd dX10_buy_20 ?_
    obtain ⟨b4, h⟩ := h
    refine x_iaload dX10_buy_21 (km rfl hn) sh_337 b4 ?_
    refine x_bipush (v := 9) dX10_buy_22 kb_9 ?_
    refine x_icmp_ne dX10_buy_24 (tgt := 29) rfl ⟨fun c5 => ?_, fun c5 => ?_⟩
    · have h := h.1 c5
      refine x_aload_n dX10_buy_29 rfl ?_
      refine x_cVv10 [] (mt_X10_remembers hn hG h) dX10_buy_30 lk_RX10_214 (km rfl hn) sh_336 rfl rfl (Nat.le_of_ble_eq_true rfl) (Rf_of rfl) (fun I6 h => ?_)
      refine x_aload_n dX10_buy_33 rfl ?_
      refine x_getr (j := 337) dX10_buy_34 fk_RX10_7 (km rfl hn) sh_336 (rt_336_1 hG) ?_
      refine x_bipush (v := 50) dX10_buy_37 kb_50 ?_
      refine x_iload_n dX10_buy_39 rfl ?_
      refine x_iload_n dX10_buy_40 rfl ?_
      refine x_cSi00 [.int v1, .int v2] (mt_X10_cellOf hn hG h) dX10_buy_41 lk_RX10_104 rfl rfl (Nat.le_of_ble_eq_true rfl) (Rf_of rfl) (fun x7 h => ?_)
      refine x_iadd dX10_buy_44 ?_
      refine x_dup2 dX10_buy_45 rfl rfl ?_
      obtain ⟨b8, h⟩ := h
      refine x_iaload dX10_buy_46 (km rfl hn) sh_337 b8 ?_
      refine x_iconst (v := 1) dX10_buy_47 ki_1 ?_
      refine x_iadd dX10_buy_48 ?_
      obtain ⟨b9, h⟩ := h
      refine x_iastore dX10_buy_49 (km rfl hn) sh_337 b9 (fun I10 eI10 => ?_)
      have h := h I10 eI10
      refine x_aload_n dX10_buy_50 rfl ?_
      refine x_iload_n dX10_buy_51 rfl ?_
      refine x_iload_n dX10_buy_52 rfl ?_
      refine x_cVv10 [.int v1, .int v2] (mt_X10_comes hn hG h) dX10_buy_53 lk_RX10_181 (km rfl hn) sh_336 rfl rfl (Nat.le_of_ble_eq_true rfl) (Rf_of rfl) (fun I11 h => ?_)
      refine x_aload_n dX10_buy_56 rfl ?_
      refine x_getr (j := 337) dX10_buy_57 fk_RX10_7 (km rfl hn) sh_336 (rt_336_1 hG) ?_
      refine x_bipush (v := 50) dX10_buy_60 kb_50 ?_
      refine x_iload_n dX10_buy_62 rfl ?_
      refine x_iload_n dX10_buy_63 rfl ?_
      refine x_cSi00 [.int v1, .int v2] (mt_X10_cellOf hn hG h) dX10_buy_64 lk_RX10_104 rfl rfl (Nat.le_of_ble_eq_true rfl) (Rf_of rfl) (fun x12 h => ?_)
      refine x_iadd dX10_buy_67 ?_
      obtain ⟨b13, h⟩ := h
      refine x_iaload dX10_buy_68 (km rfl hn) sh_337 b13 ?_
      exact x_ireturn dX10_buy_69 ⟨_, rfl, rfl, rfl, rfl, h⟩
    · have h := h.2 c5
      refine x_iconst (v := (-1)) dX10_buy_27 ki_m1 ?_
      exact x_ireturn dX10_buy_28 ⟨_, rfl, rfl, rfl, rfl, h⟩
abbrev rm_X10_keep : Room := { frames := 2, cells := 0, slots := 0, locals := 44 }
def wp_X10_keep (I : MI) (v1 : Int32) (Q : Int32 → MI → Prop) : Prop :=
    (wp_X10_isIn v1 0 4 (fun x1 => (((x1 = 0 → Q (-1) I) ∧ (¬ x1 = 0 → (vp_in 3 2212 ∧ (((I 337 (ix 3)) = v1 → Q (-1) I) ∧ (¬ (I 337 (ix 3)) = v1 → (wp_X10_puts I 3 v1 (fun x5 I6 => (Q x5 I6)))))))))))
set_option maxRecDepth 20000 in
theorem mt_X10_keep {E : Ev} {l : Launch} {n : Nat} {R : MR} (hn : 349 ≤ n) (hG : GRm R) {I : MI} {L : ML} {v1 : Int32} {Q : Int32 → MI → Prop} (h : wp_X10_keep I v1 Q) : MX E l rm_X10_keep yX10_keep cX10_keep 2 (some .int) [.ref 336, .int v1] n I L R (Qi n R (P10 I L Q)) := by
  refine MX_of (ls := [(0, .ref 336), (1, .int v1)]) (by decide) (Nat.le_of_ble_eq_true rfl) rfl ?_
  unfold wp_X10_keep at h
  refine x_iload_n dX10_keep_0 rfl ?_
  refine x_iconst (v := 0) dX10_keep_1 ki_0 ?_
  refine x_iconst (v := 4) dX10_keep_2 ki_4 ?_
  refine x_cSi00 [.int v1, .int 0, .int 4] (mt_X10_isIn hn hG h) dX10_keep_3 lk_RX10_51 rfl rfl (Nat.le_of_ble_eq_true rfl) (Rf_of rfl) (fun x1 h => ?_)
  refine x_if_eq dX10_keep_6 (tgt := 28) rfl ⟨fun c2 => ?_, fun c2 => ?_⟩
  · have h := h.1 c2
    refine x_iconst (v := (-1)) dX10_keep_28 ki_m1 ?_
    exact x_ireturn dX10_keep_29 ⟨_, rfl, rfl, rfl, rfl, h⟩
  · have h := h.2 c2
    refine x_aload_n dX10_keep_9 rfl ?_
    refine x_getr (j := 337) dX10_keep_10 fk_RX10_7 (km rfl hn) sh_336 (rt_336_1 hG) ?_
    refine x_iconst (v := 3) dX10_keep_13 ki_3 ?_
    obtain ⟨b3, h⟩ := h
    refine x_iaload dX10_keep_14 (km rfl hn) sh_337 b3 ?_
    refine x_iload_n dX10_keep_15 rfl ?_
    refine x_icmp_eq dX10_keep_16 (tgt := 28) rfl ⟨fun c4 => ?_, fun c4 => ?_⟩
    · have h := h.1 c4
      refine x_iconst (v := (-1)) dX10_keep_28 ki_m1 ?_
      exact x_ireturn dX10_keep_29 ⟨_, rfl, rfl, rfl, rfl, h⟩
    · have h := h.2 c4
      refine x_aload_n dX10_keep_19 rfl ?_
      refine x_iconst (v := 3) dX10_keep_20 ki_3 ?_
      refine x_iload_n dX10_keep_21 rfl ?_
      refine x_cVi10 [.int 3, .int v1] (mt_X10_puts hn hG h) dX10_keep_22 lk_RX10_223 (km rfl hn) sh_336 rfl rfl (Nat.le_of_ble_eq_true rfl) (Rf_of rfl) (fun x5 I6 h => ?_)
      refine x_goto dX10_keep_25 (tgt := 29) rfl ?_
      exact x_ireturn dX10_keep_29 ⟨_, rfl, rfl, rfl, rfl, h⟩
abbrev rm_X10_odds : Room := { frames := 3, cells := 0, slots := 0, locals := 65 }
def wp_X10_odds (I : MI) (v1 : Int32) (v2 : Int32) (v3 : Int32) (Q : Int32 → MI → Prop) : Prop :=
    (wp_X10_isCell I v1 v2 (fun x1 => (((x1 = 0 → Q (-1) I) ∧ (¬ x1 = 0 → (wp_X10_isIn v3 0 12 (fun x3 => (((x3 = 0 → Q (-1) I) ∧ (¬ x3 = 0 → (wp_X10_cellOf v1 v2 (fun x5 => ((vp_in (41 + x5) 2212 ∧ ((¬ (I 337 (ix (41 + x5))) = v3 → (wp_X10_cellOf v1 v2 (fun x8 => ((wp_X10_puts I (41 + x8) v3 (fun x9 I10 => (Q x9 I10))))))) ∧ ((I 337 (ix (41 + x5))) = v3 → Q (-1) I))))))))))))))))
set_option maxRecDepth 20000 in
theorem mt_X10_odds {E : Ev} {l : Launch} {n : Nat} {R : MR} (hn : 349 ≤ n) (hG : GRm R) {I : MI} {L : ML} {v1 : Int32} {v2 : Int32} {v3 : Int32} {Q : Int32 → MI → Prop} (h : wp_X10_odds I v1 v2 v3 Q) : MX E l rm_X10_odds yX10_odds cX10_odds 4 (some .int) [.ref 336, .int v1, .int v2, .int v3] n I L R (Qi n R (P10 I L Q)) := by
  refine MX_of (ls := [(0, .ref 336), (1, .int v1), (2, .int v2), (3, .int v3)]) (by decide) (Nat.le_of_ble_eq_true rfl) rfl ?_
  unfold wp_X10_odds at h
  refine x_aload_n dX10_odds_0 rfl ?_
  refine x_iload_n dX10_odds_1 rfl ?_
  refine x_iload_n dX10_odds_2 rfl ?_
  refine x_cVi00 [.int v1, .int v2] (mt_X10_isCell hn hG h) dX10_odds_3 lk_RX10_211 (km rfl hn) sh_336 rfl rfl (Nat.le_of_ble_eq_true rfl) (Rf_of rfl) (fun x1 h => ?_)
  refine x_if_eq dX10_odds_6 (tgt := 36) rfl ⟨fun c2 => ?_, fun c2 => ?_⟩
  · have h := h.1 c2
    refine x_iconst (v := (-1)) dX10_odds_36 ki_m1 ?_
    exact x_ireturn dX10_odds_37 ⟨_, rfl, rfl, rfl, rfl, h⟩
  · have h := h.2 c2
    refine x_iload_n dX10_odds_9 rfl ?_
    refine x_iconst (v := 0) dX10_odds_10 ki_0 ?_
    refine x_bipush (v := 12) dX10_odds_11 kb_12 ?_
    refine x_cSi00 [.int v3, .int 0, .int 12] (mt_X10_isIn hn hG h) dX10_odds_13 lk_RX10_51 rfl rfl (Nat.le_of_ble_eq_true rfl) (Rf_of rfl) (fun x3 h => ?_)
    refine x_if_eq dX10_odds_16 (tgt := 36) rfl ⟨fun c4 => ?_, fun c4 => ?_⟩
    · have h := h.1 c4
      refine x_iconst (v := (-1)) dX10_odds_36 ki_m1 ?_
      exact x_ireturn dX10_odds_37 ⟨_, rfl, rfl, rfl, rfl, h⟩
    · have h := h.2 c4
      refine x_aload_n dX10_odds_19 rfl ?_
      refine x_getr (j := 337) dX10_odds_20 fk_RX10_7 (km rfl hn) sh_336 (rt_336_1 hG) ?_
      refine x_bipush (v := 41) dX10_odds_23 kb_41 ?_
      refine x_iload_n dX10_odds_25 rfl ?_
      refine x_iload_n dX10_odds_26 rfl ?_
      refine x_cSi00 [.int v1, .int v2] (mt_X10_cellOf hn hG h) dX10_odds_27 lk_RX10_104 rfl rfl (Nat.le_of_ble_eq_true rfl) (Rf_of rfl) (fun x5 h => ?_)
      refine x_iadd dX10_odds_30 ?_
      obtain ⟨b6, h⟩ := h
      refine x_iaload dX10_odds_31 (km rfl hn) sh_337 b6 ?_
      refine x_iload_n dX10_odds_32 rfl ?_
      refine x_icmp_ne dX10_odds_33 (tgt := 38) rfl ⟨fun c7 => ?_, fun c7 => ?_⟩
      · have h := h.1 c7
        refine x_aload_n dX10_odds_38 rfl ?_
        refine x_bipush (v := 41) dX10_odds_39 kb_41 ?_
        refine x_iload_n dX10_odds_41 rfl ?_
        refine x_iload_n dX10_odds_42 rfl ?_
        refine x_cSi00 [.int v1, .int v2] (mt_X10_cellOf hn hG h) dX10_odds_43 lk_RX10_104 rfl rfl (Nat.le_of_ble_eq_true rfl) (Rf_of rfl) (fun x8 h => ?_)
        refine x_iadd dX10_odds_46 ?_
        refine x_iload_n dX10_odds_47 rfl ?_
        refine x_cVi10 [.int (41 + x8), .int v3] (mt_X10_puts hn hG h) dX10_odds_48 lk_RX10_223 (km rfl hn) sh_336 rfl rfl (Nat.le_of_ble_eq_true rfl) (Rf_of rfl) (fun x9 I10 h => ?_)
        exact x_ireturn dX10_odds_51 ⟨_, rfl, rfl, rfl, rfl, h⟩
      · have h := h.2 c7
        refine x_iconst (v := (-1)) dX10_odds_36 ki_m1 ?_
        exact x_ireturn dX10_odds_37 ⟨_, rfl, rfl, rfl, rfl, h⟩
abbrev rm_X10_pass : Room := { frames := 5, cells := 0, slots := 0, locals := 118 }
def lp_X10_pass_18 (v1 : Int32) (kf33 : MI → Prop) : Nat → Int32 → MI → Prop
  | 0, _, _ => False
  | n + 1, v2, I =>
    ((v1 ≤ v2 → kf33 I) ∧ (¬ v1 ≤ v2 → (wp_X10_goesDay I (fun I5 => ((lp_X10_pass_18 v1 kf33 n (v2 + 1) I5))))))
set_option maxRecDepth 20000 in
theorem lpt_X10_pass_18 {E : Ev} {l : Launch} {n : Nat} {R : MR} (hn : 349 ≤ n) (hG : GRm R) {I0 : MI} {Q : Int32 → MI → Prop} {v1 : Int32} {L : ML} {kf33 : MI → Prop}
    (hK33 : ∀ (I : MI), kf33 I → X E l rm_X10_pass yX10_pass cX10_pass 3 (some .int) noX (ZM E rm_X10_pass (Qi n R (P10 I0 L Q))) 33 [(0, .ref 336)] [] n I L R 0 0) : ∀ (N : Nat) (v2 : Int32) (I : MI), lp_X10_pass_18 v1 kf33 N v2 I → X E l rm_X10_pass yX10_pass cX10_pass 3 (some .int) noX (ZM E rm_X10_pass (Qi n R (P10 I0 L Q))) 18 [(0, .ref 336), (1, .int v1), (2, .int v2)] [] n I L R 0 0 := by
  intro N
  induction N with
  | zero => intro v2 I h; exact False.elim h
  | succ N ih =>
    intro v2 I h
    unfold lp_X10_pass_18 at h
    refine x_iload_n dX10_pass_18 rfl ?_
    refine x_iload_n dX10_pass_19 rfl ?_
    refine x_icmp_ge dX10_pass_20 (tgt := 33) rfl ⟨fun c4 => ?_, fun c4 => ?_⟩
    · have h := h.1 c4
      refine x_ls (ls' := [(0, .ref 336)]) [0] rfl ?_
      exact hK33 I h
    · have h := h.2 c4
      refine x_aload_n dX10_pass_23 rfl ?_
      refine x_cVv10 [] (mt_X10_goesDay hn hG h) dX10_pass_24 lk_RX10_208 (km rfl hn) sh_336 rfl rfl (Nat.le_of_ble_eq_true rfl) (Rf_of rfl) (fun I5 h => ?_)
      refine x_iinc (v := v2 + 1) (ls' := [(2, .int (v2 + 1)), (0, .ref 336), (1, .int v1)]) dX10_pass_27 rfl (congrArg (_ + ·) ki_1) (Nat.le_of_ble_eq_true rfl) rfl ?_
      refine x_goto dX10_pass_30 (tgt := 18) rfl ?_
      refine x_ls (ls' := [(0, .ref 336), (1, .int v1), (2, .int (v2 + 1))]) [1, 2, 0] rfl ?_
      exact ih (v2 + 1) I5 h
def wp_X10_pass (I : MI) (v1 : Int32) (Q : Int32 → MI → Prop) : Prop :=
    (wp_X10_areDays I v1 30 (fun x1 => (((¬ x1 = 0 → (wp_X10_remembers I (fun I3 => ((∃ N6, lp_X10_pass_18 v1 (fun I7 => (vp_in 5 2212 ∧ Q (I7 337 (ix 5)) I7)) N6 0 I3))))) ∧ (x1 = 0 → Q (-1) I)))))
set_option maxRecDepth 20000 in
theorem mt_X10_pass {E : Ev} {l : Launch} {n : Nat} {R : MR} (hn : 349 ≤ n) (hG : GRm R) {I : MI} {L : ML} {v1 : Int32} {Q : Int32 → MI → Prop} (h : wp_X10_pass I v1 Q) : MX E l rm_X10_pass yX10_pass cX10_pass 3 (some .int) [.ref 336, .int v1] n I L R (Qi n R (P10 I L Q)) := by
  refine MX_of (ls := [(0, .ref 336), (1, .int v1)]) (by decide) (Nat.le_of_ble_eq_true rfl) rfl ?_
  unfold wp_X10_pass at h
  refine x_aload_n dX10_pass_0 rfl ?_
  refine x_iload_n dX10_pass_1 rfl ?_
  refine x_bipush (v := 30) dX10_pass_2 kb_30 ?_
  refine x_cVi00 [.int v1, .int 30] (mt_X10_areDays hn hG h) dX10_pass_4 lk_RX10_217 (km rfl hn) sh_336 rfl rfl (Nat.le_of_ble_eq_true rfl) (Rf_of rfl) (fun x1 h => ?_)
  refine x_if_ne dX10_pass_7 (tgt := 12) rfl ⟨fun c2 => ?_, fun c2 => ?_⟩
  · have h := h.1 c2
    refine x_aload_n dX10_pass_12 rfl ?_
    refine x_cVv10 [] (mt_X10_remembers hn hG h) dX10_pass_13 lk_RX10_214 (km rfl hn) sh_336 rfl rfl (Nat.le_of_ble_eq_true rfl) (Rf_of rfl) (fun I3 h => ?_)
    refine x_iconst (v := 0) dX10_pass_16 ki_0 ?_
    refine x_istore_n (ls' := [(2, .int 0), (0, .ref 336), (1, .int v1)]) dX10_pass_17 (Nat.le_of_ble_eq_true rfl) rfl ?_
    refine x_ls (ls' := [(0, .ref 336), (1, .int v1), (2, .int 0)]) [1, 2, 0] rfl ?_
    obtain ⟨N6, h⟩ := h
    refine lpt_X10_pass_18 hn hG (fun I7 h => ?_) N6 0 I3 h
    refine x_aload_n dX10_pass_33 rfl ?_
    refine x_getr (j := 337) dX10_pass_34 fk_RX10_7 (km rfl hn) sh_336 (rt_336_1 hG) ?_
    refine x_iconst (v := 5) dX10_pass_37 ki_5 ?_
    obtain ⟨b8, h⟩ := h
    refine x_iaload dX10_pass_38 (km rfl hn) sh_337 b8 ?_
    exact x_ireturn dX10_pass_39 ⟨_, rfl, rfl, rfl, rfl, h⟩
  · have h := h.2 c2
    refine x_iconst (v := (-1)) dX10_pass_10 ki_m1 ?_
    exact x_ireturn dX10_pass_11 ⟨_, rfl, rfl, rfl, rfl, h⟩
abbrev rm_X10_rule : Room := { frames := 2, cells := 0, slots := 0, locals := 44 }
def wp_X10_rule (I : MI) (Q : Int32 → MI → Prop) : Prop :=
    (vp_in 4 2212 ∧ (wp_X10_puts I 4 (1 - (I 337 (ix 4))) (fun x2 I3 => (Q x2 I3))))
set_option maxRecDepth 20000 in
theorem mt_X10_rule {E : Ev} {l : Launch} {n : Nat} {R : MR} (hn : 349 ≤ n) (hG : GRm R) {I : MI} {L : ML} {Q : Int32 → MI → Prop} (h : wp_X10_rule I Q) : MX E l rm_X10_rule yX10_rule cX10_rule 1 (some .int) [.ref 336] n I L R (Qi n R (P10 I L Q)) := by
  refine MX_of (ls := [(0, .ref 336)]) (by decide) (Nat.le_of_ble_eq_true rfl) rfl ?_
  unfold wp_X10_rule at h
  refine x_aload_n dX10_rule_0 rfl ?_
  refine x_iconst (v := 4) dX10_rule_1 ki_4 ?_
  refine x_iconst (v := 1) dX10_rule_2 ki_1 ?_
  refine x_aload_n dX10_rule_3 rfl ?_
  refine x_getr (j := 337) dX10_rule_4 fk_RX10_7 (km rfl hn) sh_336 (rt_336_1 hG) ?_
  refine x_iconst (v := 4) dX10_rule_7 ki_4 ?_
  obtain ⟨b1, h⟩ := h
  refine x_iaload dX10_rule_8 (km rfl hn) sh_337 b1 ?_
  refine x_isub dX10_rule_9 ?_
  refine x_cVi10 [.int 4, .int (1 - (I 337 (ix 4)))] (mt_X10_puts hn hG h) dX10_rule_10 lk_RX10_223 (km rfl hn) sh_336 rfl rfl (Nat.le_of_ble_eq_true rfl) (Rf_of rfl) (fun x2 I3 h => ?_)
  exact x_ireturn dX10_rule_13 ⟨_, rfl, rfl, rfl, rfl, h⟩
abbrev rm_X10_run : Room := { frames := 6, cells := 0, slots := 0, locals := 145 }
def wp_X10_run (I : MI) (v1 : Int32) (v2 : Int32) (Q : Int32 → MI → Prop) : Prop :=
    (wp_X10_areDays I v1 30 (fun x1 => (((¬ x1 = 0 → (wp_X10_remembers I (fun I3 => ((wp_X10_runs I3 v1 v2 (fun x4 I5 => (Q x4 I5))))))) ∧ (x1 = 0 → Q (-1) I)))))
set_option maxRecDepth 20000 in
theorem mt_X10_run {E : Ev} {l : Launch} {n : Nat} {R : MR} (hn : 349 ≤ n) (hG : GRm R) {I : MI} {L : ML} {v1 : Int32} {v2 : Int32} {Q : Int32 → MI → Prop} (h : wp_X10_run I v1 v2 Q) : MX E l rm_X10_run yX10_run cX10_run 3 (some .int) [.ref 336, .int v1, .int v2] n I L R (Qi n R (P10 I L Q)) := by
  refine MX_of (ls := [(0, .ref 336), (1, .int v1), (2, .int v2)]) (by decide) (Nat.le_of_ble_eq_true rfl) rfl ?_
  unfold wp_X10_run at h
  refine x_aload_n dX10_run_0 rfl ?_
  refine x_iload_n dX10_run_1 rfl ?_
  refine x_bipush (v := 30) dX10_run_2 kb_30 ?_
  refine x_cVi00 [.int v1, .int 30] (mt_X10_areDays hn hG h) dX10_run_4 lk_RX10_217 (km rfl hn) sh_336 rfl rfl (Nat.le_of_ble_eq_true rfl) (Rf_of rfl) (fun x1 h => ?_)
  refine x_if_ne dX10_run_7 (tgt := 12) rfl ⟨fun c2 => ?_, fun c2 => ?_⟩
  · have h := h.1 c2
    refine x_aload_n dX10_run_12 rfl ?_
    refine x_cVv10 [] (mt_X10_remembers hn hG h) dX10_run_13 lk_RX10_214 (km rfl hn) sh_336 rfl rfl (Nat.le_of_ble_eq_true rfl) (Rf_of rfl) (fun I3 h => ?_)
    refine x_aload_n dX10_run_16 rfl ?_
    refine x_iload_n dX10_run_17 rfl ?_
    refine x_iload_n dX10_run_18 rfl ?_
    refine x_cVi10 [.int v1, .int v2] (mt_X10_runs hn hG h) dX10_run_19 lk_RX10_220 (km rfl hn) sh_336 rfl rfl (Nat.le_of_ble_eq_true rfl) (Rf_of rfl) (fun x4 I5 h => ?_)
    exact x_ireturn dX10_run_22 ⟨_, rfl, rfl, rfl, rfl, h⟩
  · have h := h.2 c2
    refine x_iconst (v := (-1)) dX10_run_10 ki_m1 ?_
    exact x_ireturn dX10_run_11 ⟨_, rfl, rfl, rfl, rfl, h⟩
abbrev rm_X10_sell : Room := { frames := 3, cells := 0, slots := 0, locals := 65 }
def wp_X10_sell (I : MI) (v1 : Int32) (v2 : Int32) (Q : Int32 → MI → Prop) : Prop :=
    (wp_X10_isCell I v1 v2 (fun x1 => (((x1 = 0 → Q (-1) I) ∧ (¬ x1 = 0 → (wp_X10_cellOf v1 v2 (fun x3 => ((vp_in (50 + x3) 2212 ∧ (((I 337 (ix (50 + x3))) = 0 → Q (-1) I) ∧ (¬ (I 337 (ix (50 + x3))) = 0 → (wp_X10_cellOf v1 v2 (fun x6 => ((vp_in (62 + x6) 2212 ∧ ((¬ (I 337 (ix (62 + x6))) = 0 → (wp_X10_remembers I (fun I9 => ((wp_X10_cellOf v1 v2 (fun x10 => ((vp_in (50 + x10) 2212 ∧ (vp_in (50 + x10) 2212 ∧ (∀ I13, I13 = u2 I9 337 (ix (50 + x10)) ((I9 337 (ix (50 + x10))) - 1) → (wp_X10_cellOf v1 v2 (fun x14 => ((vp_in (62 + x14) 2212 ∧ (vp_in (62 + x14) 2212 ∧ (∀ I17, I17 = u2 I13 337 (ix (62 + x14)) ((I13 337 (ix (62 + x14))) - 1) → (wp_X10_cellOf v1 v2 (fun x18 => ((vp_in (50 + x18) 2212 ∧ Q (I17 337 (ix (50 + x18))) I17)))))))))))))))))))) ∧ ((I 337 (ix (62 + x6))) = 0 → Q (-1) I)))))))))))))))))
set_option maxRecDepth 20000 in
theorem mt_X10_sell {E : Ev} {l : Launch} {n : Nat} {R : MR} (hn : 349 ≤ n) (hG : GRm R) {I : MI} {L : ML} {v1 : Int32} {v2 : Int32} {Q : Int32 → MI → Prop} (h : wp_X10_sell I v1 v2 Q) : MX E l rm_X10_sell yX10_sell cX10_sell 3 (some .int) [.ref 336, .int v1, .int v2] n I L R (Qi n R (P10 I L Q)) := by
  refine MX_of (ls := [(0, .ref 336), (1, .int v1), (2, .int v2)]) (by decide) (Nat.le_of_ble_eq_true rfl) rfl ?_
  unfold wp_X10_sell at h
  refine x_aload_n dX10_sell_0 rfl ?_
  refine x_iload_n dX10_sell_1 rfl ?_
  refine x_iload_n dX10_sell_2 rfl ?_
  refine x_cVi00 [.int v1, .int v2] (mt_X10_isCell hn hG h) dX10_sell_3 lk_RX10_211 (km rfl hn) sh_336 rfl rfl (Nat.le_of_ble_eq_true rfl) (Rf_of rfl) (fun x1 h => ?_)
  refine x_if_eq dX10_sell_6 (tgt := 41) rfl ⟨fun c2 => ?_, fun c2 => ?_⟩
  · have h := h.1 c2
    refine x_iconst (v := (-1)) dX10_sell_41 ki_m1 ?_
    exact x_ireturn dX10_sell_42 ⟨_, rfl, rfl, rfl, rfl, h⟩
  · have h := h.2 c2
    refine x_aload_n dX10_sell_9 rfl ?_
    refine x_getr (j := 337) dX10_sell_10 fk_RX10_7 (km rfl hn) sh_336 (rt_336_1 hG) ?_
    refine x_bipush (v := 50) dX10_sell_13 kb_50 ?_
    refine x_iload_n dX10_sell_15 rfl ?_
    refine x_iload_n dX10_sell_16 rfl ?_
    refine x_cSi00 [.int v1, .int v2] (mt_X10_cellOf hn hG h) dX10_sell_17 lk_RX10_104 rfl rfl (Nat.le_of_ble_eq_true rfl) (Rf_of rfl) (fun x3 h => ?_)
    refine x_iadd dX10_sell_20 ?_
    obtain ⟨b4, h⟩ := h
    refine x_iaload dX10_sell_21 (km rfl hn) sh_337 b4 ?_
    refine x_if_eq dX10_sell_22 (tgt := 41) rfl ⟨fun c5 => ?_, fun c5 => ?_⟩
    · have h := h.1 c5
      refine x_iconst (v := (-1)) dX10_sell_41 ki_m1 ?_
      exact x_ireturn dX10_sell_42 ⟨_, rfl, rfl, rfl, rfl, h⟩
    · have h := h.2 c5
      refine x_aload_n dX10_sell_25 rfl ?_
      refine x_getr (j := 337) dX10_sell_26 fk_RX10_7 (km rfl hn) sh_336 (rt_336_1 hG) ?_
      refine x_bipush (v := 62) dX10_sell_29 kb_62 ?_
      refine x_iload_n dX10_sell_31 rfl ?_
      refine x_iload_n dX10_sell_32 rfl ?_
      refine x_cSi00 [.int v1, .int v2] (mt_X10_cellOf hn hG h) dX10_sell_33 lk_RX10_104 rfl rfl (Nat.le_of_ble_eq_true rfl) (Rf_of rfl) (fun x6 h => ?_)
      refine x_iadd dX10_sell_36 ?_
      obtain ⟨b7, h⟩ := h
      refine x_iaload dX10_sell_37 (km rfl hn) sh_337 b7 ?_
      refine x_if_ne dX10_sell_38 (tgt := 43) rfl ⟨fun c8 => ?_, fun c8 => ?_⟩
      · have h := h.1 c8
        refine x_aload_n dX10_sell_43 rfl ?_
        refine x_cVv10 [] (mt_X10_remembers hn hG h) dX10_sell_44 lk_RX10_214 (km rfl hn) sh_336 rfl rfl (Nat.le_of_ble_eq_true rfl) (Rf_of rfl) (fun I9 h => ?_)
        refine x_aload_n dX10_sell_47 rfl ?_
        refine x_getr (j := 337) dX10_sell_48 fk_RX10_7 (km rfl hn) sh_336 (rt_336_1 hG) ?_
        refine x_bipush (v := 50) dX10_sell_51 kb_50 ?_
        refine x_iload_n dX10_sell_53 rfl ?_
        refine x_iload_n dX10_sell_54 rfl ?_
        refine x_cSi00 [.int v1, .int v2] (mt_X10_cellOf hn hG h) dX10_sell_55 lk_RX10_104 rfl rfl (Nat.le_of_ble_eq_true rfl) (Rf_of rfl) (fun x10 h => ?_)
        refine x_iadd dX10_sell_58 ?_
        refine x_dup2 dX10_sell_59 rfl rfl ?_
        obtain ⟨b11, h⟩ := h
        refine x_iaload dX10_sell_60 (km rfl hn) sh_337 b11 ?_
        refine x_iconst (v := 1) dX10_sell_61 ki_1 ?_
        refine x_isub dX10_sell_62 ?_
        obtain ⟨b12, h⟩ := h
        refine x_iastore dX10_sell_63 (km rfl hn) sh_337 b12 (fun I13 eI13 => ?_)
        have h := h I13 eI13
        refine x_aload_n dX10_sell_64 rfl ?_
        refine x_getr (j := 337) dX10_sell_65 fk_RX10_7 (km rfl hn) sh_336 (rt_336_1 hG) ?_
        refine x_bipush (v := 62) dX10_sell_68 kb_62 ?_
        refine x_iload_n dX10_sell_70 rfl ?_
        refine x_iload_n dX10_sell_71 rfl ?_
        refine x_cSi00 [.int v1, .int v2] (mt_X10_cellOf hn hG h) dX10_sell_72 lk_RX10_104 rfl rfl (Nat.le_of_ble_eq_true rfl) (Rf_of rfl) (fun x14 h => ?_)
        refine x_iadd dX10_sell_75 ?_
        refine x_dup2 dX10_sell_76 rfl rfl ?_
        obtain ⟨b15, h⟩ := h
        refine x_iaload dX10_sell_77 (km rfl hn) sh_337 b15 ?_
        refine x_iconst (v := 1) dX10_sell_78 ki_1 ?_
        refine x_isub dX10_sell_79 ?_
        obtain ⟨b16, h⟩ := h
        refine x_iastore dX10_sell_80 (km rfl hn) sh_337 b16 (fun I17 eI17 => ?_)
        have h := h I17 eI17
        refine x_aload_n dX10_sell_81 rfl ?_
        refine x_getr (j := 337) dX10_sell_82 fk_RX10_7 (km rfl hn) sh_336 (rt_336_1 hG) ?_
        refine x_bipush (v := 50) dX10_sell_85 kb_50 ?_
        refine x_iload_n dX10_sell_87 rfl ?_
        refine x_iload_n dX10_sell_88 rfl ?_
        refine x_cSi00 [.int v1, .int v2] (mt_X10_cellOf hn hG h) dX10_sell_89 lk_RX10_104 rfl rfl (Nat.le_of_ble_eq_true rfl) (Rf_of rfl) (fun x18 h => ?_)
        refine x_iadd dX10_sell_92 ?_
        obtain ⟨b19, h⟩ := h
        refine x_iaload dX10_sell_93 (km rfl hn) sh_337 b19 ?_
        exact x_ireturn dX10_sell_94 ⟨_, rfl, rfl, rfl, rfl, h⟩
      · have h := h.2 c8
        refine x_iconst (v := (-1)) dX10_sell_41 ki_m1 ?_
        exact x_ireturn dX10_sell_42 ⟨_, rfl, rfl, rfl, rfl, h⟩
abbrev rm_X10_set : Room := { frames := 2, cells := 0, slots := 0, locals := 44 }
def jn_X10_set_66 (I : MI) (v3 : Int32) (v4 : Int32) (s0 : Int32) (s1 : Int32) (s2 : Int32) (Q : Int32 → MI → Prop) : Prop :=
    (wp_X10_isIn s2 s1 s0 (fun x9 => (((x9 = 0 → Q (-1) I) ∧ (¬ x9 = 0 → (vp_in v4 2212 ∧ ((¬ (I 337 (ix v4)) = v3 → (wp_X10_puts I v4 v3 (fun x13 I14 => (Q x13 I14)))) ∧ ((I 337 (ix v4)) = v3 → Q (-1) I))))))))
set_option maxRecDepth 20000 in
theorem jnt_X10_set_66 {E : Ev} {l : Launch} {n : Nat} {R : MR} (hn : 349 ≤ n) (hG : GRm R) {I0 : MI} {Q : Int32 → MI → Prop} {I : MI} {L : ML} {v3 : Int32} {v4 : Int32} {s0 : Int32} {s1 : Int32} {s2 : Int32} (h : jn_X10_set_66 I v3 v4 s0 s1 s2 Q) : X E l rm_X10_set yX10_set cX10_set 5 (some .int) noX (ZM E rm_X10_set (Qi n R (P10 I0 L Q))) 66 [(0, .ref 336), (3, .int v3), (4, .int v4)] [.int s0, .int s1, .int s2] n I L R 0 0 := by
  unfold jn_X10_set_66 at h
  refine x_cSi00 [.int s2, .int s1, .int s0] (mt_X10_isIn hn hG h) dX10_set_66 lk_RX10_51 rfl rfl (Nat.le_of_ble_eq_true rfl) (Rf_of rfl) (fun x9 h => ?_)
  refine x_if_eq dX10_set_69 (tgt := 83) rfl ⟨fun c10 => ?_, fun c10 => ?_⟩
  · have h := h.1 c10
    refine x_iconst (v := (-1)) dX10_set_83 ki_m1 ?_
    exact x_ireturn dX10_set_84 ⟨_, rfl, rfl, rfl, rfl, h⟩
  · have h := h.2 c10
    refine x_aload_n dX10_set_72 rfl ?_
    refine x_getr (j := 337) dX10_set_73 fk_RX10_7 (km rfl hn) sh_336 (rt_336_1 hG) ?_
    refine x_iload dX10_set_76 rfl ?_
    obtain ⟨b11, h⟩ := h
    refine x_iaload dX10_set_78 (km rfl hn) sh_337 b11 ?_
    refine x_iload_n dX10_set_79 rfl ?_
    refine x_icmp_ne dX10_set_80 (tgt := 85) rfl ⟨fun c12 => ?_, fun c12 => ?_⟩
    · have h := h.1 c12
      refine x_aload_n dX10_set_85 rfl ?_
      refine x_iload dX10_set_86 rfl ?_
      refine x_iload_n dX10_set_88 rfl ?_
      refine x_cVi10 [.int v4, .int v3] (mt_X10_puts hn hG h) dX10_set_89 lk_RX10_223 (km rfl hn) sh_336 rfl rfl (Nat.le_of_ble_eq_true rfl) (Rf_of rfl) (fun x13 I14 h => ?_)
      exact x_ireturn dX10_set_92 ⟨_, rfl, rfl, rfl, rfl, h⟩
    · have h := h.2 c12
      refine x_iconst (v := (-1)) dX10_set_83 ki_m1 ?_
      exact x_ireturn dX10_set_84 ⟨_, rfl, rfl, rfl, rfl, h⟩
def jn_X10_set_55 (I : MI) (v2 : Int32) (v3 : Int32) (v4 : Int32) (s0 : Int32) (s1 : Int32) (Q : Int32 → MI → Prop) : Prop :=
    ((¬ v2 = 0 → (jn_X10_set_66 I v3 v4 9 s0 s1 Q)) ∧ (v2 = 0 → (jn_X10_set_66 I v3 v4 30 s0 s1 Q)))
set_option maxRecDepth 20000 in
theorem jnt_X10_set_55 {E : Ev} {l : Launch} {n : Nat} {R : MR} (hn : 349 ≤ n) (hG : GRm R) {I0 : MI} {Q : Int32 → MI → Prop} {I : MI} {L : ML} {v2 : Int32} {v3 : Int32} {v4 : Int32} {s0 : Int32} {s1 : Int32} (h : jn_X10_set_55 I v2 v3 v4 s0 s1 Q) : X E l rm_X10_set yX10_set cX10_set 5 (some .int) noX (ZM E rm_X10_set (Qi n R (P10 I0 L Q))) 55 [(0, .ref 336), (2, .int v2), (3, .int v3), (4, .int v4)] [.int s0, .int s1] n I L R 0 0 := by
  unfold jn_X10_set_55 at h
  refine x_iload_n dX10_set_55 rfl ?_
  refine x_if_ne dX10_set_56 (tgt := 64) rfl ⟨fun c8 => ?_, fun c8 => ?_⟩
  · have h := h.1 c8
    refine x_bipush (v := 9) dX10_set_64 kb_9 ?_
    refine x_ls (ls' := [(0, .ref 336), (3, .int v3), (4, .int v4)]) [0, 2, 3] rfl ?_
    exact jnt_X10_set_66 hn hG  h
  · have h := h.2 c8
    refine x_bipush (v := 30) dX10_set_59 kb_30 ?_
    refine x_goto dX10_set_61 (tgt := 66) rfl ?_
    refine x_ls (ls' := [(0, .ref 336), (3, .int v3), (4, .int v4)]) [0, 2, 3] rfl ?_
    exact jnt_X10_set_66 hn hG  h
def jn_X10_set_40 (I : MI) (v1 : Int32) (v2 : Int32) (v3 : Int32) (s0 : Int32) (Q : Int32 → MI → Prop) : Prop :=
    ((¬ v2 = 1 → (jn_X10_set_55 I v2 v3 (s0 + v1) 1 v3 Q)) ∧ (v2 = 1 → (jn_X10_set_55 I v2 v3 (s0 + v1) 0 v3 Q)))
set_option maxRecDepth 20000 in
theorem jnt_X10_set_40 {E : Ev} {l : Launch} {n : Nat} {R : MR} (hn : 349 ≤ n) (hG : GRm R) {I0 : MI} {Q : Int32 → MI → Prop} {I : MI} {L : ML} {v1 : Int32} {v2 : Int32} {v3 : Int32} {s0 : Int32} (h : jn_X10_set_40 I v1 v2 v3 s0 Q) : X E l rm_X10_set yX10_set cX10_set 5 (some .int) noX (ZM E rm_X10_set (Qi n R (P10 I0 L Q))) 40 [(0, .ref 336), (1, .int v1), (2, .int v2), (3, .int v3)] [.int s0] n I L R 0 0 := by
  unfold jn_X10_set_40 at h
  refine x_iload_n dX10_set_40 rfl ?_
  refine x_iadd dX10_set_41 ?_
  refine x_istore (ls' := [(4, .int (s0 + v1)), (0, .ref 336), (1, .int v1), (2, .int v2), (3, .int v3)]) dX10_set_42 (Nat.le_of_ble_eq_true rfl) rfl ?_
  refine x_iload_n dX10_set_44 rfl ?_
  refine x_iload_n dX10_set_45 rfl ?_
  refine x_iconst (v := 1) dX10_set_46 ki_1 ?_
  refine x_icmp_ne dX10_set_47 (tgt := 54) rfl ⟨fun c7 => ?_, fun c7 => ?_⟩
  · have h := h.1 c7
    refine x_iconst (v := 1) dX10_set_54 ki_1 ?_
    refine x_ls (ls' := [(0, .ref 336), (2, .int v2), (3, .int v3), (4, .int (s0 + v1))]) [1, 3, 4, 0] rfl ?_
    exact jnt_X10_set_55 hn hG  h
  · have h := h.2 c7
    refine x_iconst (v := 0) dX10_set_50 ki_0 ?_
    refine x_goto dX10_set_51 (tgt := 55) rfl ?_
    refine x_ls (ls' := [(0, .ref 336), (2, .int v2), (3, .int v3), (4, .int (s0 + v1))]) [1, 3, 4, 0] rfl ?_
    exact jnt_X10_set_55 hn hG  h
def wp_X10_set (I : MI) (v1 : Int32) (v2 : Int32) (v3 : Int32) (Q : Int32 → MI → Prop) : Prop :=
    (wp_X10_isPart I v1 (fun x1 => (((x1 = 0 → Q (-1) I) ∧ (¬ x1 = 0 → (wp_X10_isIn v2 0 2 (fun x3 => (((¬ x3 = 0 → ((¬ v2 = 0 → ((¬ v2 = 1 → (jn_X10_set_40 I v1 v2 v3 26 Q)) ∧ (v2 = 1 → (jn_X10_set_40 I v1 v2 v3 23 Q)))) ∧ (v2 = 0 → (jn_X10_set_40 I v1 v2 v3 20 Q)))) ∧ (x3 = 0 → Q (-1) I))))))))))
set_option maxRecDepth 20000 in
theorem mt_X10_set {E : Ev} {l : Launch} {n : Nat} {R : MR} (hn : 349 ≤ n) (hG : GRm R) {I : MI} {L : ML} {v1 : Int32} {v2 : Int32} {v3 : Int32} {Q : Int32 → MI → Prop} (h : wp_X10_set I v1 v2 v3 Q) : MX E l rm_X10_set yX10_set cX10_set 5 (some .int) [.ref 336, .int v1, .int v2, .int v3] n I L R (Qi n R (P10 I L Q)) := by
  refine MX_of (ls := [(0, .ref 336), (1, .int v1), (2, .int v2), (3, .int v3)]) (by decide) (Nat.le_of_ble_eq_true rfl) rfl ?_
  unfold wp_X10_set at h
  refine x_aload_n dX10_set_0 rfl ?_
  refine x_iload_n dX10_set_1 rfl ?_
  refine x_cVi00 [.int v1] (mt_X10_isPart hn hG h) dX10_set_2 lk_RX10_59 (km rfl hn) sh_336 rfl rfl (Nat.le_of_ble_eq_true rfl) (Rf_of rfl) (fun x1 h => ?_)
  refine x_if_eq dX10_set_5 (tgt := 17) rfl ⟨fun c2 => ?_, fun c2 => ?_⟩
  · have h := h.1 c2
    refine x_iconst (v := (-1)) dX10_set_17 ki_m1 ?_
    exact x_ireturn dX10_set_18 ⟨_, rfl, rfl, rfl, rfl, h⟩
  · have h := h.2 c2
    refine x_iload_n dX10_set_8 rfl ?_
    refine x_iconst (v := 0) dX10_set_9 ki_0 ?_
    refine x_iconst (v := 2) dX10_set_10 ki_2 ?_
    refine x_cSi00 [.int v2, .int 0, .int 2] (mt_X10_isIn hn hG h) dX10_set_11 lk_RX10_51 rfl rfl (Nat.le_of_ble_eq_true rfl) (Rf_of rfl) (fun x3 h => ?_)
    refine x_if_ne dX10_set_14 (tgt := 19) rfl ⟨fun c4 => ?_, fun c4 => ?_⟩
    · have h := h.1 c4
      refine x_iload_n dX10_set_19 rfl ?_
      refine x_if_ne dX10_set_20 (tgt := 28) rfl ⟨fun c5 => ?_, fun c5 => ?_⟩
      · have h := h.1 c5
        refine x_iload_n dX10_set_28 rfl ?_
        refine x_iconst (v := 1) dX10_set_29 ki_1 ?_
        refine x_icmp_ne dX10_set_30 (tgt := 38) rfl ⟨fun c6 => ?_, fun c6 => ?_⟩
        · have h := h.1 c6
          refine x_bipush (v := 26) dX10_set_38 kb_26 ?_
          exact jnt_X10_set_40 hn hG  h
        · have h := h.2 c6
          refine x_bipush (v := 23) dX10_set_33 kb_23 ?_
          refine x_goto dX10_set_35 (tgt := 40) rfl ?_
          exact jnt_X10_set_40 hn hG  h
      · have h := h.2 c5
        refine x_bipush (v := 20) dX10_set_23 kb_20 ?_
        refine x_goto dX10_set_25 (tgt := 40) rfl ?_
        exact jnt_X10_set_40 hn hG  h
    · have h := h.2 c4
      refine x_iconst (v := (-1)) dX10_set_17 ki_m1 ?_
      exact x_ireturn dX10_set_18 ⟨_, rfl, rfl, rfl, rfl, h⟩
abbrev rm_X10_supply : Room := { frames := 3, cells := 0, slots := 0, locals := 73 }
def wp_X10_supply (I : MI) (v1 : Int32) (Q : Int32 → MI → Prop) : Prop :=
    (wp_X10_isPart I v1 (fun x1 => (((x1 = 0 → Q (-1) I) ∧ (¬ x1 = 0 → (vp_in (59 + v1) 2212 ∧ ((¬ (I 337 (ix (59 + v1))) = 9 → (wp_X10_remembers I (fun I5 => ((vp_in (59 + v1) 2212 ∧ (vp_in (59 + v1) 2212 ∧ (∀ I8, I8 = u2 I5 337 (ix (59 + v1)) ((I5 337 (ix (59 + v1))) + 1) → (vp_in (71 + v1) 2212 ∧ (vp_in (71 + v1) 2212 ∧ (∀ I11, I11 = u2 I8 337 (ix (71 + v1)) ((I8 337 (ix (71 + v1))) + 1) → (wp_X10_answers I11 v1 (fun I12 => ((vp_in (59 + v1) 2212 ∧ Q (I12 337 (ix (59 + v1))) I12)))))))))))))) ∧ ((I 337 (ix (59 + v1))) = 9 → Q (-1) I))))))))
set_option maxRecDepth 20000 in
theorem mt_X10_supply {E : Ev} {l : Launch} {n : Nat} {R : MR} (hn : 349 ≤ n) (hG : GRm R) {I : MI} {L : ML} {v1 : Int32} {Q : Int32 → MI → Prop} (h : wp_X10_supply I v1 Q) : MX E l rm_X10_supply yX10_supply cX10_supply 2 (some .int) [.ref 336, .int v1] n I L R (Qi n R (P10 I L Q)) := by
  refine MX_of (ls := [(0, .ref 336), (1, .int v1)]) (by decide) (Nat.le_of_ble_eq_true rfl) rfl ?_
  unfold wp_X10_supply at h
  refine x_aload_n dX10_supply_0 rfl ?_
  refine x_iload_n dX10_supply_1 rfl ?_
  refine x_cVi00 [.int v1] (mt_X10_isPart hn hG h) dX10_supply_2 lk_RX10_59 (km rfl hn) sh_336 rfl rfl (Nat.le_of_ble_eq_true rfl) (Rf_of rfl) (fun x1 h => ?_)
  refine x_if_eq dX10_supply_5 (tgt := 22) rfl ⟨fun c2 => ?_, fun c2 => ?_⟩
  · have h := h.1 c2
    refine x_iconst (v := (-1)) dX10_supply_22 ki_m1 ?_
    exact x_ireturn dX10_supply_23 ⟨_, rfl, rfl, rfl, rfl, h⟩
  · have h := h.2 c2
    refine x_aload_n dX10_supply_8 rfl ?_
    refine x_getr (j := 337) dX10_supply_9 fk_RX10_7 (km rfl hn) sh_336 (rt_336_1 hG) ?_
    refine x_bipush (v := 59) dX10_supply_12 kb_59 ?_
    refine x_iload_n dX10_supply_14 rfl ?_
    refine x_iadd dX10_supply_15 ?_
    obtain ⟨b3, h⟩ := h
    refine x_iaload dX10_supply_16 (km rfl hn) sh_337 b3 ?_
    refine x_bipush (v := 9) dX10_supply_17 kb_9 ?_
    refine x_icmp_ne dX10_supply_19 (tgt := 24) rfl ⟨fun c4 => ?_, fun c4 => ?_⟩
    · have h := h.1 c4
      refine x_aload_n dX10_supply_24 rfl ?_
      refine x_cVv10 [] (mt_X10_remembers hn hG h) dX10_supply_25 lk_RX10_214 (km rfl hn) sh_336 rfl rfl (Nat.le_of_ble_eq_true rfl) (Rf_of rfl) (fun I5 h => ?_)
      refine x_aload_n dX10_supply_28 rfl ?_
      refine x_getr (j := 337) dX10_supply_29 fk_RX10_7 (km rfl hn) sh_336 (rt_336_1 hG) ?_
      refine x_bipush (v := 59) dX10_supply_32 kb_59 ?_
      refine x_iload_n dX10_supply_34 rfl ?_
      refine x_iadd dX10_supply_35 ?_
      refine x_dup2 dX10_supply_36 rfl rfl ?_
      obtain ⟨b6, h⟩ := h
      refine x_iaload dX10_supply_37 (km rfl hn) sh_337 b6 ?_
      refine x_iconst (v := 1) dX10_supply_38 ki_1 ?_
      refine x_iadd dX10_supply_39 ?_
      obtain ⟨b7, h⟩ := h
      refine x_iastore dX10_supply_40 (km rfl hn) sh_337 b7 (fun I8 eI8 => ?_)
      have h := h I8 eI8
      refine x_aload_n dX10_supply_41 rfl ?_
      refine x_getr (j := 337) dX10_supply_42 fk_RX10_7 (km rfl hn) sh_336 (rt_336_1 hG) ?_
      refine x_bipush (v := 71) dX10_supply_45 kb_71 ?_
      refine x_iload_n dX10_supply_47 rfl ?_
      refine x_iadd dX10_supply_48 ?_
      refine x_dup2 dX10_supply_49 rfl rfl ?_
      obtain ⟨b9, h⟩ := h
      refine x_iaload dX10_supply_50 (km rfl hn) sh_337 b9 ?_
      refine x_iconst (v := 1) dX10_supply_51 ki_1 ?_
      refine x_iadd dX10_supply_52 ?_
      obtain ⟨b10, h⟩ := h
      refine x_iastore dX10_supply_53 (km rfl hn) sh_337 b10 (fun I11 eI11 => ?_)
      have h := h I11 eI11
      refine x_aload_n dX10_supply_54 rfl ?_
      refine x_iload_n dX10_supply_55 rfl ?_
      refine x_cVv10 [.int v1] (mt_X10_answers hn hG h) dX10_supply_56 lk_RX10_175 (km rfl hn) sh_336 rfl rfl (Nat.le_of_ble_eq_true rfl) (Rf_of rfl) (fun I12 h => ?_)
      refine x_aload_n dX10_supply_59 rfl ?_
      refine x_getr (j := 337) dX10_supply_60 fk_RX10_7 (km rfl hn) sh_336 (rt_336_1 hG) ?_
      refine x_bipush (v := 59) dX10_supply_63 kb_59 ?_
      refine x_iload_n dX10_supply_65 rfl ?_
      refine x_iadd dX10_supply_66 ?_
      obtain ⟨b13, h⟩ := h
      refine x_iaload dX10_supply_67 (km rfl hn) sh_337 b13 ?_
      exact x_ireturn dX10_supply_68 ⟨_, rfl, rfl, rfl, rfl, h⟩
    · have h := h.2 c4
      refine x_iconst (v := (-1)) dX10_supply_22 ki_m1 ?_
      exact x_ireturn dX10_supply_23 ⟨_, rfl, rfl, rfl, rfl, h⟩
abbrev rm_X10_undo : Room := { frames := 0, cells := 0, slots := 0, locals := 0 }
def lp_X10_undo_21 (Q : Int32 → MI → Prop) : Nat → Int32 → MI → Prop
  | 0, _, _ => False
  | n + 1, v1, I =>
    ((2212 ≤ v1 → Q (I 336 4) I) ∧ (¬ 2212 ≤ v1 → (vp_in ((2212 * (I 336 4)) + v1) 26544 ∧ (vp_in v1 2212 ∧ (∀ I6, I6 = u2 I 337 (ix v1) (I 339 (ix ((2212 * (I 336 4)) + v1))) → (lp_X10_undo_21 Q n (v1 + 1) I6))))))
set_option maxRecDepth 20000 in
theorem lpt_X10_undo_21 {E : Ev} {l : Launch} {n : Nat} {R : MR} (hn : 349 ≤ n) (hG : GRm R) {I0 : MI} {Q : Int32 → MI → Prop} {L : ML} : ∀ (N : Nat) (v1 : Int32) (I : MI), lp_X10_undo_21 Q N v1 I → X E l rm_X10_undo yX10_undo cX10_undo 2 (some .int) noX (ZM E rm_X10_undo (Qi n R (P10 I0 L Q))) 21 [(0, .ref 336), (1, .int v1)] [] n I L R 0 0 := by
  intro N
  induction N with
  | zero => intro v1 I h; exact False.elim h
  | succ N ih =>
    intro v1 I h
    unfold lp_X10_undo_21 at h
    refine x_iload_n dX10_undo_21 rfl ?_
    refine x_sipush (v := 2212) dX10_undo_22 ks_2212 ?_
    refine x_icmp_ge dX10_undo_25 (tgt := 55) rfl ⟨fun c3 => ?_, fun c3 => ?_⟩
    · have h := h.1 c3
      refine x_aload_n dX10_undo_55 rfl ?_
      refine x_geti dX10_undo_56 fk_RX10_153 (km rfl hn) sh_336 ?_
      exact x_ireturn dX10_undo_59 ⟨_, rfl, rfl, rfl, rfl, h⟩
    · have h := h.2 c3
      refine x_aload_n dX10_undo_28 rfl ?_
      refine x_getr (j := 337) dX10_undo_29 fk_RX10_7 (km rfl hn) sh_336 (rt_336_1 hG) ?_
      refine x_iload_n dX10_undo_32 rfl ?_
      refine x_aload_n dX10_undo_33 rfl ?_
      refine x_getr (j := 339) dX10_undo_34 fk_RX10_16 (km rfl hn) sh_336 (rt_336_3 hG) ?_
      refine x_sipush (v := 2212) dX10_undo_37 ks_2212 ?_
      refine x_aload_n dX10_undo_40 rfl ?_
      refine x_geti dX10_undo_41 fk_RX10_153 (km rfl hn) sh_336 ?_
      refine x_imul dX10_undo_44 ?_
      refine x_iload_n dX10_undo_45 rfl ?_
      refine x_iadd dX10_undo_46 ?_
      obtain ⟨b4, h⟩ := h
      refine x_iaload dX10_undo_47 (km rfl hn) sh_339 b4 ?_
      obtain ⟨b5, h⟩ := h
      refine x_iastore dX10_undo_48 (km rfl hn) sh_337 b5 (fun I6 eI6 => ?_)
      have h := h I6 eI6
      refine x_iinc (v := v1 + 1) (ls' := [(1, .int (v1 + 1)), (0, .ref 336)]) dX10_undo_49 rfl (congrArg (_ + ·) ki_1) (Nat.le_of_ble_eq_true rfl) rfl ?_
      refine x_goto dX10_undo_52 (tgt := 21) rfl ?_
      refine x_ls (ls' := [(0, .ref 336), (1, .int (v1 + 1))]) [1, 0] rfl ?_
      exact ih (v1 + 1) I6 h
def wp_X10_undo (I : MI) (Q : Int32 → MI → Prop) : Prop :=
    ((¬ (I 336 4) = 0 → (∀ I2, I2 = u2 I 336 4 ((I 336 4) - 1) → (∃ N7, lp_X10_undo_21 Q N7 0 I2))) ∧ ((I 336 4) = 0 → Q (-1) I))
set_option maxRecDepth 20000 in
theorem mt_X10_undo {E : Ev} {l : Launch} {n : Nat} {R : MR} (hn : 349 ≤ n) (hG : GRm R) {I : MI} {L : ML} {Q : Int32 → MI → Prop} (h : wp_X10_undo I Q) : MX E l rm_X10_undo yX10_undo cX10_undo 2 (some .int) [.ref 336] n I L R (Qi n R (P10 I L Q)) := by
  refine MX_of (ls := [(0, .ref 336)]) (by decide) (Nat.le_of_ble_eq_true rfl) rfl ?_
  unfold wp_X10_undo at h
  refine x_aload_n dX10_undo_0 rfl ?_
  refine x_geti dX10_undo_1 fk_RX10_153 (km rfl hn) sh_336 ?_
  refine x_if_ne dX10_undo_4 (tgt := 9) rfl ⟨fun c1 => ?_, fun c1 => ?_⟩
  · have h := h.1 c1
    refine x_aload_n dX10_undo_9 rfl ?_
    refine x_dup dX10_undo_10 rfl ?_
    refine x_geti dX10_undo_11 fk_RX10_153 (km rfl hn) sh_336 ?_
    refine x_iconst (v := 1) dX10_undo_14 ki_1 ?_
    refine x_isub dX10_undo_15 ?_
    refine x_puti dX10_undo_16 fk_RX10_153 fw_8_4 (vp_nar_int _) rfl (km rfl hn) sh_336 (fun I2 eI2 => ?_)
    have h := h I2 eI2
    refine x_iconst (v := 0) dX10_undo_19 ki_0 ?_
    refine x_istore_n (ls' := [(1, .int 0), (0, .ref 336)]) dX10_undo_20 (Nat.le_of_ble_eq_true rfl) rfl ?_
    refine x_ls (ls' := [(0, .ref 336), (1, .int 0)]) [1, 0] rfl ?_
    obtain ⟨N7, h⟩ := h
    exact lpt_X10_undo_21 hn hG  N7 0 I2 h
  · have h := h.2 c1
    refine x_iconst (v := (-1)) dX10_undo_7 ki_m1 ?_
    exact x_ireturn dX10_undo_8 ⟨_, rfl, rfl, rfl, rfl, h⟩
