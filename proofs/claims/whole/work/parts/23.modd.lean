abbrev rm_X10_waysOf : Room := { frames := 0, cells := 0, slots := 0, locals := 0 }
def jn_X10_waysOf_82 (v5 : Int32) (s0 : Int32) (s1 : Int32) (kj6 : Int32 → Int32 → Prop) : Prop :=
    kj6 (s1 + s0) (v5 + 1)
set_option maxRecDepth 20000 in
theorem jnt_X10_waysOf_82 {E : Ev} {l : Launch} {n : Nat} {R : MR} (hn : 349 ≤ n) (hG : GRm R) {Q : Int32 → Prop} {I : MI} {L : ML} {v1 : Int32} {v2 : Int32} {v3 : Int32} {v5 : Int32} {s0 : Int32} {s1 : Int32} {kj6 : Int32 → Int32 → Prop}
    (hJ6 : ∀ (v4 : Int32) (v5 : Int32), kj6 v4 v5 → X E l rm_X10_waysOf yX10_waysOf cX10_waysOf 7 (some .int) noX (ZM E rm_X10_waysOf (Qi n R (P00 I L Q))) 6 [(0, .ref 336), (1, .int v1), (2, .int v2), (3, .int v3), (4, .int v4), (5, .int v5)] [] n I L R 0 0) (h : jn_X10_waysOf_82 v5 s0 s1 kj6) : X E l rm_X10_waysOf yX10_waysOf cX10_waysOf 7 (some .int) noX (ZM E rm_X10_waysOf (Qi n R (P00 I L Q))) 82 [(0, .ref 336), (1, .int v1), (2, .int v2), (3, .int v3), (5, .int v5)] [.int s0, .int s1] n I L R 0 0 := by
  unfold jn_X10_waysOf_82 at h
  refine x_iadd dX10_waysOf_82 ?_
  refine x_istore (ls' := [(4, .int (s1 + s0)), (0, .ref 336), (1, .int v1), (2, .int v2), (3, .int v3), (5, .int v5)]) dX10_waysOf_83 (Nat.le_of_ble_eq_true rfl) rfl ?_
  refine x_iinc (v := v5 + 1) (ls' := [(5, .int (v5 + 1)), (4, .int (s1 + s0)), (0, .ref 336), (1, .int v1), (2, .int v2), (3, .int v3)]) dX10_waysOf_85 rfl (congrArg (_ + ·) ki_1) (Nat.le_of_ble_eq_true rfl) rfl ?_
  refine x_goto dX10_waysOf_88 (tgt := 6) rfl ?_
  refine x_ls (ls' := [(0, .ref 336), (1, .int v1), (2, .int v2), (3, .int v3), (4, .int (s1 + s0)), (5, .int (v5 + 1))]) [2, 3, 4, 5, 1, 0] rfl ?_
  exact hJ6 (s1 + s0) (v5 + 1) h
def jn_X10_waysOf_81 (v5 : Int32) (s0 : Int32) (kj6 : Int32 → Int32 → Prop) : Prop :=
    (jn_X10_waysOf_82 v5 0 s0 (fun x5 x6 => kj6 x5 x6))
set_option maxRecDepth 20000 in
theorem jnt_X10_waysOf_81 {E : Ev} {l : Launch} {n : Nat} {R : MR} (hn : 349 ≤ n) (hG : GRm R) {Q : Int32 → Prop} {I : MI} {L : ML} {v1 : Int32} {v2 : Int32} {v3 : Int32} {v5 : Int32} {s0 : Int32} {kj6 : Int32 → Int32 → Prop}
    (hJ6 : ∀ (v4 : Int32) (v5 : Int32), kj6 v4 v5 → X E l rm_X10_waysOf yX10_waysOf cX10_waysOf 7 (some .int) noX (ZM E rm_X10_waysOf (Qi n R (P00 I L Q))) 6 [(0, .ref 336), (1, .int v1), (2, .int v2), (3, .int v3), (4, .int v4), (5, .int v5)] [] n I L R 0 0) (h : jn_X10_waysOf_81 v5 s0 kj6) : X E l rm_X10_waysOf yX10_waysOf cX10_waysOf 7 (some .int) noX (ZM E rm_X10_waysOf (Qi n R (P00 I L Q))) 81 [(0, .ref 336), (1, .int v1), (2, .int v2), (3, .int v3), (5, .int v5)] [.int s0] n I L R 0 0 := by
  unfold jn_X10_waysOf_81 at h
  refine x_iconst (v := 0) dX10_waysOf_81 ki_0 ?_
  refine jnt_X10_waysOf_82 hn hG (fun x5 x6 h => ?_) h
  exact hJ6 x5 x6 h
def jn_X10_waysOf_77 (v5 : Int32) (s0 : Int32) (kj6 : Int32 → Int32 → Prop) : Prop :=
    (jn_X10_waysOf_82 v5 1 s0 (fun x11 x12 => kj6 x11 x12))
set_option maxRecDepth 20000 in
theorem jnt_X10_waysOf_77 {E : Ev} {l : Launch} {n : Nat} {R : MR} (hn : 349 ≤ n) (hG : GRm R) {Q : Int32 → Prop} {I : MI} {L : ML} {v1 : Int32} {v2 : Int32} {v3 : Int32} {v5 : Int32} {s0 : Int32} {kj6 : Int32 → Int32 → Prop}
    (hJ6 : ∀ (v4 : Int32) (v5 : Int32), kj6 v4 v5 → X E l rm_X10_waysOf yX10_waysOf cX10_waysOf 7 (some .int) noX (ZM E rm_X10_waysOf (Qi n R (P00 I L Q))) 6 [(0, .ref 336), (1, .int v1), (2, .int v2), (3, .int v3), (4, .int v4), (5, .int v5)] [] n I L R 0 0) (h : jn_X10_waysOf_77 v5 s0 kj6) : X E l rm_X10_waysOf yX10_waysOf cX10_waysOf 7 (some .int) noX (ZM E rm_X10_waysOf (Qi n R (P00 I L Q))) 77 [(0, .ref 336), (1, .int v1), (2, .int v2), (3, .int v3), (5, .int v5)] [.int s0] n I L R 0 0 := by
  unfold jn_X10_waysOf_77 at h
  refine x_iconst (v := 1) dX10_waysOf_77 ki_1 ?_
  refine x_goto dX10_waysOf_78 (tgt := 82) rfl ?_
  refine jnt_X10_waysOf_82 hn hG (fun x11 x12 h => ?_) h
  exact hJ6 x11 x12 h
def jn_X10_waysOf_59 (I : MI) (v3 : Int32) (v5 : Int32) (v6 : Int32) (s0 : Int32) (kj6 : Int32 → Int32 → Prop) : Prop :=
    ((v3 = (-1) → (jn_X10_waysOf_77 v5 s0 (fun x13 x14 => kj6 x13 x14))) ∧ (¬ v3 = (-1) → (vp_in (v6 + 3) 2212 ∧ ((¬ (I 337 (ix (v6 + 3))) = v3 → (jn_X10_waysOf_81 v5 s0 (fun x17 x18 => kj6 x17 x18))) ∧ ((I 337 (ix (v6 + 3))) = v3 → (jn_X10_waysOf_77 v5 s0 (fun x19 x20 => kj6 x19 x20)))))))
set_option maxRecDepth 20000 in
theorem jnt_X10_waysOf_59 {E : Ev} {l : Launch} {n : Nat} {R : MR} (hn : 349 ≤ n) (hG : GRm R) {Q : Int32 → Prop} {I : MI} {L : ML} {v1 : Int32} {v2 : Int32} {v3 : Int32} {v5 : Int32} {v6 : Int32} {s0 : Int32} {kj6 : Int32 → Int32 → Prop}
    (hJ6 : ∀ (v4 : Int32) (v5 : Int32), kj6 v4 v5 → X E l rm_X10_waysOf yX10_waysOf cX10_waysOf 7 (some .int) noX (ZM E rm_X10_waysOf (Qi n R (P00 I L Q))) 6 [(0, .ref 336), (1, .int v1), (2, .int v2), (3, .int v3), (4, .int v4), (5, .int v5)] [] n I L R 0 0) (h : jn_X10_waysOf_59 I v3 v5 v6 s0 kj6) : X E l rm_X10_waysOf yX10_waysOf cX10_waysOf 7 (some .int) noX (ZM E rm_X10_waysOf (Qi n R (P00 I L Q))) 59 [(0, .ref 336), (1, .int v1), (2, .int v2), (3, .int v3), (5, .int v5), (6, .int v6)] [.int s0] n I L R 0 0 := by
  unfold jn_X10_waysOf_59 at h
  refine x_iload_n dX10_waysOf_59 rfl ?_
  refine x_iconst (v := (-1)) dX10_waysOf_60 ki_m1 ?_
  refine x_icmp_eq dX10_waysOf_61 (tgt := 77) rfl ⟨fun c10 => ?_, fun c10 => ?_⟩
  · have h := h.1 c10
    refine x_ls (ls' := [(0, .ref 336), (1, .int v1), (2, .int v2), (3, .int v3), (5, .int v5)]) [0, 1, 2, 3, 4] rfl ?_
    refine jnt_X10_waysOf_77 hn hG (fun x13 x14 h => ?_) h
    exact hJ6 x13 x14 h
  · have h := h.2 c10
    refine x_aload_n dX10_waysOf_64 rfl ?_
    refine x_getr (j := 337) dX10_waysOf_65 fk_RX10_7 (km rfl hn) sh_336 (rt_336_1 hG) ?_
    refine x_iload dX10_waysOf_68 rfl ?_
    refine x_iconst (v := 3) dX10_waysOf_70 ki_3 ?_
    refine x_iadd dX10_waysOf_71 ?_
    obtain ⟨b15, h⟩ := h
    refine x_iaload dX10_waysOf_72 (km rfl hn) sh_337 b15 ?_
    refine x_iload_n dX10_waysOf_73 rfl ?_
    refine x_icmp_ne dX10_waysOf_74 (tgt := 81) rfl ⟨fun c16 => ?_, fun c16 => ?_⟩
    · have h := h.1 c16
      refine x_ls (ls' := [(0, .ref 336), (1, .int v1), (2, .int v2), (3, .int v3), (5, .int v5)]) [0, 1, 2, 3, 4] rfl ?_
      refine jnt_X10_waysOf_81 hn hG (fun x17 x18 h => ?_) h
      exact hJ6 x17 x18 h
    · have h := h.2 c16
      refine x_ls (ls' := [(0, .ref 336), (1, .int v1), (2, .int v2), (3, .int v3), (5, .int v5)]) [0, 1, 2, 3, 4] rfl ?_
      refine jnt_X10_waysOf_77 hn hG (fun x19 x20 h => ?_) h
      exact hJ6 x19 x20 h
def lp_X10_waysOf_6 (I : MI) (v1 : Int32) (v2 : Int32) (v3 : Int32) (Q : Int32 → Prop) : Nat → Int32 → Int32 → Prop
  | 0, _, _ => False
  | n + 1, v4, v5 =>
    (vp_in 16 2212 ∧ (((I 337 (ix 16)) ≤ v5 → Q v4) ∧ (¬ (I 337 (ix 16)) ≤ v5 → (vp_in (1012 + (5 * v5)) 2212 ∧ ((¬ (I 337 (ix (1012 + (5 * v5)))) = v1 → (jn_X10_waysOf_81 v5 v4 (fun x7 x8 => (lp_X10_waysOf_6 I v1 v2 v3 Q n x7 x8)))) ∧ ((I 337 (ix (1012 + (5 * v5)))) = v1 → ((v2 = (-1) → (jn_X10_waysOf_59 I v3 v5 (1012 + (5 * v5)) v4 (fun x21 x22 => (lp_X10_waysOf_6 I v1 v2 v3 Q n x21 x22)))) ∧ (¬ v2 = (-1) → (vp_in ((1012 + (5 * v5)) + 2) 2212 ∧ ((¬ (I 337 (ix ((1012 + (5 * v5)) + 2))) = v2 → (jn_X10_waysOf_81 v5 v4 (fun x25 x26 => (lp_X10_waysOf_6 I v1 v2 v3 Q n x25 x26)))) ∧ ((I 337 (ix ((1012 + (5 * v5)) + 2))) = v2 → (jn_X10_waysOf_59 I v3 v5 (1012 + (5 * v5)) v4 (fun x27 x28 => (lp_X10_waysOf_6 I v1 v2 v3 Q n x27 x28))))))))))))))
set_option maxRecDepth 20000 in
theorem lpt_X10_waysOf_6 {E : Ev} {l : Launch} {n : Nat} {R : MR} (hn : 349 ≤ n) (hG : GRm R) {Q : Int32 → Prop} {v1 : Int32} {v2 : Int32} {v3 : Int32} {I : MI} {L : ML} : ∀ (N : Nat) (v4 : Int32) (v5 : Int32), lp_X10_waysOf_6 I v1 v2 v3 Q N v4 v5 → X E l rm_X10_waysOf yX10_waysOf cX10_waysOf 7 (some .int) noX (ZM E rm_X10_waysOf (Qi n R (P00 I L Q))) 6 [(0, .ref 336), (1, .int v1), (2, .int v2), (3, .int v3), (4, .int v4), (5, .int v5)] [] n I L R 0 0 := by
  intro N
  induction N with
  | zero => intro v4 v5 h; exact False.elim h
  | succ N ih =>
    intro v4 v5 h
    unfold lp_X10_waysOf_6 at h
    refine x_iload dX10_waysOf_6 rfl ?_
    refine x_aload_n dX10_waysOf_8 rfl ?_
    refine x_getr (j := 337) dX10_waysOf_9 fk_RX10_7 (km rfl hn) sh_336 (rt_336_1 hG) ?_
    refine x_bipush (v := 16) dX10_waysOf_12 kb_16 ?_
    obtain ⟨b1, h⟩ := h
    refine x_iaload dX10_waysOf_14 (km rfl hn) sh_337 b1 ?_
    refine x_icmp_ge dX10_waysOf_15 (tgt := 91) rfl ⟨fun c2 => ?_, fun c2 => ?_⟩
    · have h := h.1 c2
      refine x_iload dX10_waysOf_91 rfl ?_
      exact x_ireturn dX10_waysOf_93 ⟨_, rfl, rfl, rfl, rfl, rfl, h⟩
    · have h := h.2 c2
      refine x_sipush (v := 1012) dX10_waysOf_18 ks_1012 ?_
      refine x_iconst (v := 5) dX10_waysOf_21 ki_5 ?_
      refine x_iload dX10_waysOf_22 rfl ?_
      refine x_imul dX10_waysOf_24 ?_
      refine x_iadd dX10_waysOf_25 ?_
      refine x_istore (ls' := [(6, .int (1012 + (5 * v5))), (0, .ref 336), (1, .int v1), (2, .int v2), (3, .int v3), (4, .int v4), (5, .int v5)]) dX10_waysOf_26 (Nat.le_of_ble_eq_true rfl) rfl ?_
      refine x_iload dX10_waysOf_28 rfl ?_
      refine x_aload_n dX10_waysOf_30 rfl ?_
      refine x_getr (j := 337) dX10_waysOf_31 fk_RX10_7 (km rfl hn) sh_336 (rt_336_1 hG) ?_
      refine x_iload dX10_waysOf_34 rfl ?_
      obtain ⟨b3, h⟩ := h
      refine x_iaload dX10_waysOf_36 (km rfl hn) sh_337 b3 ?_
      refine x_iload_n dX10_waysOf_37 rfl ?_
      refine x_icmp_ne dX10_waysOf_38 (tgt := 81) rfl ⟨fun c4 => ?_, fun c4 => ?_⟩
      · have h := h.1 c4
        refine x_ls (ls' := [(0, .ref 336), (1, .int v1), (2, .int v2), (3, .int v3), (5, .int v5)]) [1, 2, 3, 4, 6] rfl ?_
        refine jnt_X10_waysOf_81 hn hG (fun x7 x8 h => ?_) h
        exact ih x7 x8 h
      · have h := h.2 c4
        refine x_iload_n dX10_waysOf_41 rfl ?_
        refine x_iconst (v := (-1)) dX10_waysOf_42 ki_m1 ?_
        refine x_icmp_eq dX10_waysOf_43 (tgt := 59) rfl ⟨fun c9 => ?_, fun c9 => ?_⟩
        · have h := h.1 c9
          refine x_ls (ls' := [(0, .ref 336), (1, .int v1), (2, .int v2), (3, .int v3), (5, .int v5), (6, .int (1012 + (5 * v5)))]) [1, 2, 3, 4, 6, 0] rfl ?_
          refine jnt_X10_waysOf_59 hn hG (fun x21 x22 h => ?_) h
          exact ih x21 x22 h
        · have h := h.2 c9
          refine x_aload_n dX10_waysOf_46 rfl ?_
          refine x_getr (j := 337) dX10_waysOf_47 fk_RX10_7 (km rfl hn) sh_336 (rt_336_1 hG) ?_
          refine x_iload dX10_waysOf_50 rfl ?_
          refine x_iconst (v := 2) dX10_waysOf_52 ki_2 ?_
          refine x_iadd dX10_waysOf_53 ?_
          obtain ⟨b23, h⟩ := h
          refine x_iaload dX10_waysOf_54 (km rfl hn) sh_337 b23 ?_
          refine x_iload_n dX10_waysOf_55 rfl ?_
          refine x_icmp_ne dX10_waysOf_56 (tgt := 81) rfl ⟨fun c24 => ?_, fun c24 => ?_⟩
          · have h := h.1 c24
            refine x_ls (ls' := [(0, .ref 336), (1, .int v1), (2, .int v2), (3, .int v3), (5, .int v5)]) [1, 2, 3, 4, 6] rfl ?_
            refine jnt_X10_waysOf_81 hn hG (fun x25 x26 h => ?_) h
            exact ih x25 x26 h
          · have h := h.2 c24
            refine x_ls (ls' := [(0, .ref 336), (1, .int v1), (2, .int v2), (3, .int v3), (5, .int v5), (6, .int (1012 + (5 * v5)))]) [1, 2, 3, 4, 6, 0] rfl ?_
            refine jnt_X10_waysOf_59 hn hG (fun x27 x28 h => ?_) h
            exact ih x27 x28 h
def wp_X10_waysOf (I : MI) (v1 : Int32) (v2 : Int32) (v3 : Int32) (Q : Int32 → Prop) : Prop :=
    (∃ N29, lp_X10_waysOf_6 I v1 v2 v3 Q N29 0 0)
set_option maxRecDepth 20000 in
theorem mt_X10_waysOf {E : Ev} {l : Launch} {n : Nat} {R : MR} (hn : 349 ≤ n) (hG : GRm R) {I : MI} {L : ML} {v1 : Int32} {v2 : Int32} {v3 : Int32} {Q : Int32 → Prop} (h : wp_X10_waysOf I v1 v2 v3 Q) : MX E l rm_X10_waysOf yX10_waysOf cX10_waysOf 7 (some .int) [.ref 336, .int v1, .int v2, .int v3] n I L R (Qi n R (P00 I L Q)) := by
  refine MX_of (ls := [(0, .ref 336), (1, .int v1), (2, .int v2), (3, .int v3)]) (by decide) (Nat.le_of_ble_eq_true rfl) rfl ?_
  unfold wp_X10_waysOf at h
  refine x_iconst (v := 0) dX10_waysOf_0 ki_0 ?_
  refine x_istore (ls' := [(4, .int 0), (0, .ref 336), (1, .int v1), (2, .int v2), (3, .int v3)]) dX10_waysOf_1 (Nat.le_of_ble_eq_true rfl) rfl ?_
  refine x_iconst (v := 0) dX10_waysOf_3 ki_0 ?_
  refine x_istore (ls' := [(5, .int 0), (4, .int 0), (0, .ref 336), (1, .int v1), (2, .int v2), (3, .int v3)]) dX10_waysOf_4 (Nat.le_of_ble_eq_true rfl) rfl ?_
  refine x_ls (ls' := [(0, .ref 336), (1, .int v1), (2, .int v2), (3, .int v3), (4, .int 0), (5, .int 0)]) [2, 3, 4, 5, 1, 0] rfl ?_
  obtain ⟨N29, h⟩ := h
  exact lpt_X10_waysOf_6 hn hG  N29 0 0 h
abbrev rm_X10_base : Room := { frames := 2, cells := 0, slots := 0, locals := 43 }
def jn_X10_base_115 (v4 : Int32) (s0 : Int32) (s1 : Int32) (kj59 : Int32 → Int32 → Prop) : Prop :=
    kj59 (s1 + s0) (v4 + 1)
set_option maxRecDepth 20000 in
theorem jnt_X10_base_115 {E : Ev} {l : Launch} {n : Nat} {R : MR} (hn : 349 ≤ n) (hG : GRm R) {Q : Int32 → Prop} {I : MI} {L : ML} {v1 : Int32} {v2 : Int32} {v4 : Int32} {s0 : Int32} {s1 : Int32} {kj59 : Int32 → Int32 → Prop}
    (hJ59 : ∀ (v3 : Int32) (v4 : Int32), kj59 v3 v4 → X E l rm_X10_base yX10_base cX10_base 5 (some .int) noX (ZM E rm_X10_base (Qi n R (P00 I L Q))) 59 [(0, .ref 336), (1, .int v1), (2, .int v2), (3, .int v3), (4, .int v4)] [] n I L R 0 0) (h : jn_X10_base_115 v4 s0 s1 kj59) : X E l rm_X10_base yX10_base cX10_base 5 (some .int) noX (ZM E rm_X10_base (Qi n R (P00 I L Q))) 115 [(0, .ref 336), (1, .int v1), (2, .int v2), (4, .int v4)] [.int s0, .int s1] n I L R 0 0 := by
  unfold jn_X10_base_115 at h
  refine x_iadd dX10_base_115 ?_
  refine x_istore_n (ls' := [(3, .int (s1 + s0)), (0, .ref 336), (1, .int v1), (2, .int v2), (4, .int v4)]) dX10_base_116 (Nat.le_of_ble_eq_true rfl) rfl ?_
  refine x_iinc (v := v4 + 1) (ls' := [(4, .int (v4 + 1)), (3, .int (s1 + s0)), (0, .ref 336), (1, .int v1), (2, .int v2)]) dX10_base_117 rfl (congrArg (_ + ·) ki_1) (Nat.le_of_ble_eq_true rfl) rfl ?_
  refine x_goto dX10_base_120 (tgt := 59) rfl ?_
  refine x_ls (ls' := [(0, .ref 336), (1, .int v1), (2, .int v2), (3, .int (s1 + s0)), (4, .int (v4 + 1))]) [2, 3, 4, 1, 0] rfl ?_
  exact hJ59 (s1 + s0) (v4 + 1) h
def lp_X10_base_59 (I : MI) (v1 : Int32) (v2 : Int32) (Q : Int32 → Prop) : Nat → Int32 → Int32 → Prop
  | 0, _, _ => False
  | n + 1, v3, v4 =>
    (vp_in 0 2212 ∧ (((I 337 (ix 0)) ≤ v4 → Q v3) ∧ (¬ (I 337 (ix 0)) ≤ v4 → ((¬ v2 = 1 → ((¬ v2 = 2 → (wp_X10_cellOf v1 v4 (fun x11 => ((vp_in (62 + x11) 2212 ∧ (jn_X10_base_115 v4 (I 337 (ix (62 + x11))) v3 (fun x13 x14 => (lp_X10_base_59 I v1 v2 Q n x13 x14)))))))) ∧ (v2 = 2 → (wp_X10_callsOf I v1 v4 (fun x15 => ((jn_X10_base_115 v4 x15 v3 (fun x16 x17 => (lp_X10_base_59 I v1 v2 Q n x16 x17))))))))) ∧ (v2 = 1 → (wp_X10_wantsOf I v1 v4 (fun x18 => ((jn_X10_base_115 v4 x18 v3 (fun x19 x20 => (lp_X10_base_59 I v1 v2 Q n x19 x20)))))))))))
set_option maxRecDepth 20000 in
theorem lpt_X10_base_59 {E : Ev} {l : Launch} {n : Nat} {R : MR} (hn : 349 ≤ n) (hG : GRm R) {Q : Int32 → Prop} {v1 : Int32} {v2 : Int32} {I : MI} {L : ML} : ∀ (N : Nat) (v3 : Int32) (v4 : Int32), lp_X10_base_59 I v1 v2 Q N v3 v4 → X E l rm_X10_base yX10_base cX10_base 5 (some .int) noX (ZM E rm_X10_base (Qi n R (P00 I L Q))) 59 [(0, .ref 336), (1, .int v1), (2, .int v2), (3, .int v3), (4, .int v4)] [] n I L R 0 0 := by
  intro N
  induction N with
  | zero => intro v3 v4 h; exact False.elim h
  | succ N ih =>
    intro v3 v4 h
    unfold lp_X10_base_59 at h
    refine x_iload dX10_base_59 rfl ?_
    refine x_aload_n dX10_base_61 rfl ?_
    refine x_getr (j := 337) dX10_base_62 fk_RX10_7 (km rfl hn) sh_336 (rt_336_1 hG) ?_
    refine x_iconst (v := 0) dX10_base_65 ki_0 ?_
    obtain ⟨b7, h⟩ := h
    refine x_iaload dX10_base_66 (km rfl hn) sh_337 b7 ?_
    refine x_icmp_ge dX10_base_67 (tgt := 123) rfl ⟨fun c8 => ?_, fun c8 => ?_⟩
    · have h := h.1 c8
      refine x_iload_n dX10_base_123 rfl ?_
      exact x_ireturn dX10_base_124 ⟨_, rfl, rfl, rfl, rfl, rfl, h⟩
    · have h := h.2 c8
      refine x_iload_n dX10_base_70 rfl ?_
      refine x_iload_n dX10_base_71 rfl ?_
      refine x_iconst (v := 1) dX10_base_72 ki_1 ?_
      refine x_icmp_ne dX10_base_73 (tgt := 86) rfl ⟨fun c9 => ?_, fun c9 => ?_⟩
      · have h := h.1 c9
        refine x_iload_n dX10_base_86 rfl ?_
        refine x_iconst (v := 2) dX10_base_87 ki_2 ?_
        refine x_icmp_ne dX10_base_88 (tgt := 101) rfl ⟨fun c10 => ?_, fun c10 => ?_⟩
        · have h := h.1 c10
          refine x_aload_n dX10_base_101 rfl ?_
          refine x_getr (j := 337) dX10_base_102 fk_RX10_7 (km rfl hn) sh_336 (rt_336_1 hG) ?_
          refine x_bipush (v := 62) dX10_base_105 kb_62 ?_
          refine x_iload_n dX10_base_107 rfl ?_
          refine x_iload dX10_base_108 rfl ?_
          refine x_cSi00 [.int v1, .int v4] (mt_X10_cellOf hn hG h) dX10_base_110 lk_RX10_104 rfl rfl (Nat.le_of_ble_eq_true rfl) (Rf_of rfl) (fun x11 h => ?_)
          refine x_iadd dX10_base_113 ?_
          obtain ⟨b12, h⟩ := h
          refine x_iaload dX10_base_114 (km rfl hn) sh_337 b12 ?_
          refine x_ls (ls' := [(0, .ref 336), (1, .int v1), (2, .int v2), (4, .int v4)]) [0, 1, 2, 4] rfl ?_
          refine jnt_X10_base_115 hn hG (fun x13 x14 h => ?_) h
          exact ih x13 x14 h
        · have h := h.2 c10
          refine x_aload_n dX10_base_91 rfl ?_
          refine x_iload_n dX10_base_92 rfl ?_
          refine x_iload dX10_base_93 rfl ?_
          refine x_cVi00 [.int v1, .int v4] (mt_X10_callsOf hn hG h) dX10_base_95 lk_RX10_226 (km rfl hn) sh_336 rfl rfl (Nat.le_of_ble_eq_true rfl) (Rf_of rfl) (fun x15 h => ?_)
          refine x_goto dX10_base_98 (tgt := 115) rfl ?_
          refine x_ls (ls' := [(0, .ref 336), (1, .int v1), (2, .int v2), (4, .int v4)]) [0, 1, 2, 4] rfl ?_
          refine jnt_X10_base_115 hn hG (fun x16 x17 h => ?_) h
          exact ih x16 x17 h
      · have h := h.2 c9
        refine x_aload_n dX10_base_76 rfl ?_
        refine x_iload_n dX10_base_77 rfl ?_
        refine x_iload dX10_base_78 rfl ?_
        refine x_cVi00 [.int v1, .int v4] (mt_X10_wantsOf hn hG h) dX10_base_80 lk_RX10_156 (km rfl hn) sh_336 rfl rfl (Nat.le_of_ble_eq_true rfl) (Rf_of rfl) (fun x18 h => ?_)
        refine x_goto dX10_base_83 (tgt := 115) rfl ?_
        refine x_ls (ls' := [(0, .ref 336), (1, .int v1), (2, .int v2), (4, .int v4)]) [0, 1, 2, 4] rfl ?_
        refine jnt_X10_base_115 hn hG (fun x19 x20 h => ?_) h
        exact ih x19 x20 h
def wp_X10_base (I : MI) (v1 : Int32) (v2 : Int32) (Q : Int32 → Prop) : Prop :=
    (wp_X10_isBase I v1 (fun x1 => (((x1 = 0 → Q (-1)) ∧ (¬ x1 = 0 → (wp_X10_isIn v2 0 4 (fun x3 => (((¬ x3 = 0 → ((¬ v2 = 0 → ((¬ v2 = 3 → (∃ N21, lp_X10_base_59 I v1 v2 Q N21 0 0)) ∧ (v2 = 3 → (wp_X10_waysOf I 3 (-1) v1 (fun x22 => ((wp_X10_waysOf I 4 (-1) v1 (fun x23 => (Q (x22 + x23)))))))))) ∧ (v2 = 0 → (vp_in (29 + v1) 2212 ∧ Q (I 337 (ix (29 + v1))))))) ∧ (x3 = 0 → Q (-1)))))))))))
set_option maxRecDepth 20000 in
theorem mt_X10_base {E : Ev} {l : Launch} {n : Nat} {R : MR} (hn : 349 ≤ n) (hG : GRm R) {I : MI} {L : ML} {v1 : Int32} {v2 : Int32} {Q : Int32 → Prop} (h : wp_X10_base I v1 v2 Q) : MX E l rm_X10_base yX10_base cX10_base 5 (some .int) [.ref 336, .int v1, .int v2] n I L R (Qi n R (P00 I L Q)) := by
  refine MX_of (ls := [(0, .ref 336), (1, .int v1), (2, .int v2)]) (by decide) (Nat.le_of_ble_eq_true rfl) rfl ?_
  unfold wp_X10_base at h
  refine x_aload_n dX10_base_0 rfl ?_
  refine x_iload_n dX10_base_1 rfl ?_
  refine x_cVi00 [.int v1] (mt_X10_isBase hn hG h) dX10_base_2 lk_RX10_55 (km rfl hn) sh_336 rfl rfl (Nat.le_of_ble_eq_true rfl) (Rf_of rfl) (fun x1 h => ?_)
  refine x_if_eq dX10_base_5 (tgt := 17) rfl ⟨fun c2 => ?_, fun c2 => ?_⟩
  · have h := h.1 c2
    refine x_iconst (v := (-1)) dX10_base_17 ki_m1 ?_
    exact x_ireturn dX10_base_18 ⟨_, rfl, rfl, rfl, rfl, rfl, h⟩
  · have h := h.2 c2
    refine x_iload_n dX10_base_8 rfl ?_
    refine x_iconst (v := 0) dX10_base_9 ki_0 ?_
    refine x_iconst (v := 4) dX10_base_10 ki_4 ?_
    refine x_cSi00 [.int v2, .int 0, .int 4] (mt_X10_isIn hn hG h) dX10_base_11 lk_RX10_51 rfl rfl (Nat.le_of_ble_eq_true rfl) (Rf_of rfl) (fun x3 h => ?_)
    refine x_if_ne dX10_base_14 (tgt := 19) rfl ⟨fun c4 => ?_, fun c4 => ?_⟩
    · have h := h.1 c4
      refine x_iload_n dX10_base_19 rfl ?_
      refine x_if_ne dX10_base_20 (tgt := 33) rfl ⟨fun c5 => ?_, fun c5 => ?_⟩
      · have h := h.1 c5
        refine x_iload_n dX10_base_33 rfl ?_
        refine x_iconst (v := 3) dX10_base_34 ki_3 ?_
        refine x_icmp_ne dX10_base_35 (tgt := 54) rfl ⟨fun c6 => ?_, fun c6 => ?_⟩
        · have h := h.1 c6
          refine x_iconst (v := 0) dX10_base_54 ki_0 ?_
          refine x_istore_n (ls' := [(3, .int 0), (0, .ref 336), (1, .int v1), (2, .int v2)]) dX10_base_55 (Nat.le_of_ble_eq_true rfl) rfl ?_
          refine x_iconst (v := 0) dX10_base_56 ki_0 ?_
          refine x_istore (ls' := [(4, .int 0), (3, .int 0), (0, .ref 336), (1, .int v1), (2, .int v2)]) dX10_base_57 (Nat.le_of_ble_eq_true rfl) rfl ?_
          refine x_ls (ls' := [(0, .ref 336), (1, .int v1), (2, .int v2), (3, .int 0), (4, .int 0)]) [2, 3, 4, 1, 0] rfl ?_
          obtain ⟨N21, h⟩ := h
          exact lpt_X10_base_59 hn hG  N21 0 0 h
        · have h := h.2 c6
          refine x_aload_n dX10_base_38 rfl ?_
          refine x_iconst (v := 3) dX10_base_39 ki_3 ?_
          refine x_iconst (v := (-1)) dX10_base_40 ki_m1 ?_
          refine x_iload_n dX10_base_41 rfl ?_
          refine x_cVi00 [.int 3, .int (-1), .int v1] (mt_X10_waysOf hn hG h) dX10_base_42 lk_RX10_235 (km rfl hn) sh_336 rfl rfl (Nat.le_of_ble_eq_true rfl) (Rf_of rfl) (fun x22 h => ?_)
          refine x_aload_n dX10_base_45 rfl ?_
          refine x_iconst (v := 4) dX10_base_46 ki_4 ?_
          refine x_iconst (v := (-1)) dX10_base_47 ki_m1 ?_
          refine x_iload_n dX10_base_48 rfl ?_
          refine x_cVi00 [.int 4, .int (-1), .int v1] (mt_X10_waysOf hn hG h) dX10_base_49 lk_RX10_235 (km rfl hn) sh_336 rfl rfl (Nat.le_of_ble_eq_true rfl) (Rf_of rfl) (fun x23 h => ?_)
          refine x_iadd dX10_base_52 ?_
          exact x_ireturn dX10_base_53 ⟨_, rfl, rfl, rfl, rfl, rfl, h⟩
      · have h := h.2 c5
        refine x_aload_n dX10_base_23 rfl ?_
        refine x_getr (j := 337) dX10_base_24 fk_RX10_7 (km rfl hn) sh_336 (rt_336_1 hG) ?_
        refine x_bipush (v := 29) dX10_base_27 kb_29 ?_
        refine x_iload_n dX10_base_29 rfl ?_
        refine x_iadd dX10_base_30 ?_
        obtain ⟨b24, h⟩ := h
        refine x_iaload dX10_base_31 (km rfl hn) sh_337 b24 ?_
        exact x_ireturn dX10_base_32 ⟨_, rfl, rfl, rfl, rfl, rfl, h⟩
    · have h := h.2 c4
      refine x_iconst (v := (-1)) dX10_base_17 ki_m1 ?_
      exact x_ireturn dX10_base_18 ⟨_, rfl, rfl, rfl, rfl, rfl, h⟩
abbrev rm_X10_late : Room := { frames := 0, cells := 0, slots := 0, locals := 0 }
def lp_X10_late_10 (I : MI) (Q : Int32 → Prop) : Nat → Int32 → Int32 → Prop
  | 0, _, _ => False
  | n + 1, v1, v2 =>
    (vp_in 14 2212 ∧ (((I 337 (ix 14)) ≤ v2 → Q v1) ∧ (¬ (I 337 (ix 14)) ≤ v2 → (vp_in 5 2212 ∧ (vp_in ((92 + (4 * v2)) + 2) 2212 ∧ (lp_X10_late_10 I Q n (v1 + ((I 337 (ix 5)) - (I 337 (ix ((92 + (4 * v2)) + 2))))) (v2 + 1)))))))
set_option maxRecDepth 20000 in
theorem lpt_X10_late_10 {E : Ev} {l : Launch} {n : Nat} {R : MR} (hn : 349 ≤ n) (hG : GRm R) {Q : Int32 → Prop} {I : MI} {L : ML} : ∀ (N : Nat) (v1 : Int32) (v2 : Int32), lp_X10_late_10 I Q N v1 v2 → X E l rm_X10_late yX10_late cX10_late 3 (some .int) noX (ZM E rm_X10_late (Qi n R (P00 I L Q))) 10 [(0, .ref 336), (1, .int v1), (2, .int v2)] [] n I L R 0 0 := by
  intro N
  induction N with
  | zero => intro v1 v2 h; exact False.elim h
  | succ N ih =>
    intro v1 v2 h
    unfold lp_X10_late_10 at h
    refine x_iload_n dX10_late_10 rfl ?_
    refine x_aload_n dX10_late_11 rfl ?_
    refine x_getr (j := 337) dX10_late_12 fk_RX10_7 (km rfl hn) sh_336 (rt_336_1 hG) ?_
    refine x_bipush (v := 14) dX10_late_15 kb_14 ?_
    obtain ⟨b2, h⟩ := h
    refine x_iaload dX10_late_17 (km rfl hn) sh_337 b2 ?_
    refine x_icmp_ge dX10_late_18 (tgt := 50) rfl ⟨fun c3 => ?_, fun c3 => ?_⟩
    · have h := h.1 c3
      refine x_iload_n dX10_late_50 rfl ?_
      exact x_ireturn dX10_late_51 ⟨_, rfl, rfl, rfl, rfl, rfl, h⟩
    · have h := h.2 c3
      refine x_iload_n dX10_late_21 rfl ?_
      refine x_aload_n dX10_late_22 rfl ?_
      refine x_getr (j := 337) dX10_late_23 fk_RX10_7 (km rfl hn) sh_336 (rt_336_1 hG) ?_
      refine x_iconst (v := 5) dX10_late_26 ki_5 ?_
      obtain ⟨b4, h⟩ := h
      refine x_iaload dX10_late_27 (km rfl hn) sh_337 b4 ?_
      refine x_aload_n dX10_late_28 rfl ?_
      refine x_getr (j := 337) dX10_late_29 fk_RX10_7 (km rfl hn) sh_336 (rt_336_1 hG) ?_
      refine x_bipush (v := 92) dX10_late_32 kb_92 ?_
      refine x_iconst (v := 4) dX10_late_34 ki_4 ?_
      refine x_iload_n dX10_late_35 rfl ?_
      refine x_imul dX10_late_36 ?_
      refine x_iadd dX10_late_37 ?_
      refine x_iconst (v := 2) dX10_late_38 ki_2 ?_
      refine x_iadd dX10_late_39 ?_
      obtain ⟨b5, h⟩ := h
      refine x_iaload dX10_late_40 (km rfl hn) sh_337 b5 ?_
      refine x_isub dX10_late_41 ?_
      refine x_iadd dX10_late_42 ?_
      refine x_istore_n (ls' := [(1, .int (v1 + ((I 337 (ix 5)) - (I 337 (ix ((92 + (4 * v2)) + 2)))))), (0, .ref 336), (2, .int v2)]) dX10_late_43 (Nat.le_of_ble_eq_true rfl) rfl ?_
      refine x_iinc (v := v2 + 1) (ls' := [(2, .int (v2 + 1)), (1, .int (v1 + ((I 337 (ix 5)) - (I 337 (ix ((92 + (4 * v2)) + 2)))))), (0, .ref 336)]) dX10_late_44 rfl (congrArg (_ + ·) ki_1) (Nat.le_of_ble_eq_true rfl) rfl ?_
      refine x_goto dX10_late_47 (tgt := 10) rfl ?_
      refine x_ls (ls' := [(0, .ref 336), (1, .int (v1 + ((I 337 (ix 5)) - (I 337 (ix ((92 + (4 * v2)) + 2)))))), (2, .int (v2 + 1))]) [2, 1, 0] rfl ?_
      exact ih (v1 + ((I 337 (ix 5)) - (I 337 (ix ((92 + (4 * v2)) + 2))))) (v2 + 1) h
def wp_X10_late (I : MI) (Q : Int32 → Prop) : Prop :=
    (vp_in 9 2212 ∧ (∃ N6, lp_X10_late_10 I Q N6 (I 337 (ix 9)) 0))
set_option maxRecDepth 20000 in
theorem mt_X10_late {E : Ev} {l : Launch} {n : Nat} {R : MR} (hn : 349 ≤ n) (hG : GRm R) {I : MI} {L : ML} {Q : Int32 → Prop} (h : wp_X10_late I Q) : MX E l rm_X10_late yX10_late cX10_late 3 (some .int) [.ref 336] n I L R (Qi n R (P00 I L Q)) := by
  refine MX_of (ls := [(0, .ref 336)]) (by decide) (Nat.le_of_ble_eq_true rfl) rfl ?_
  unfold wp_X10_late at h
  refine x_aload_n dX10_late_0 rfl ?_
  refine x_getr (j := 337) dX10_late_1 fk_RX10_7 (km rfl hn) sh_336 (rt_336_1 hG) ?_
  refine x_bipush (v := 9) dX10_late_4 kb_9 ?_
  obtain ⟨b1, h⟩ := h
  refine x_iaload dX10_late_6 (km rfl hn) sh_337 b1 ?_
  refine x_istore_n (ls' := [(1, .int (I 337 (ix 9))), (0, .ref 336)]) dX10_late_7 (Nat.le_of_ble_eq_true rfl) rfl ?_
  refine x_iconst (v := 0) dX10_late_8 ki_0 ?_
  refine x_istore_n (ls' := [(2, .int 0), (1, .int (I 337 (ix 9))), (0, .ref 336)]) dX10_late_9 (Nat.le_of_ble_eq_true rfl) rfl ?_
  refine x_ls (ls' := [(0, .ref 336), (1, .int (I 337 (ix 9))), (2, .int 0)]) [2, 1, 0] rfl ?_
  obtain ⟨N6, h⟩ := h
  exact lpt_X10_late_10 hn hG  N6 (I 337 (ix 9)) 0 h
abbrev rm_X10_by : Room := { frames := 6, cells := 0, slots := 0, locals := 145 }
def jn_X10_by_83 (I : MI) (v1 : Int32) (v2 : Int32) (v4 : Int32) (s0 : Int32) (Q : Int32 → MI → Prop) : Prop :=
    (vp_in s0 2212 ∧ (∀ I14, I14 = u2 I 337 (ix s0) v4 → (wp_X10_loads I14 (fun I15 => ((wp_X10_runs I15 v1 v2 (fun x16 I17 => ((wp_X10_late I17 (fun x18 => ((wp_X10_bringBack I17 (fun I19 => (Q x18 I19))))))))))))))
set_option maxRecDepth 20000 in
theorem jnt_X10_by_83 {E : Ev} {l : Launch} {n : Nat} {R : MR} (hn : 349 ≤ n) (hG : GRm R) {I0 : MI} {Q : Int32 → MI → Prop} {I : MI} {L : ML} {v1 : Int32} {v2 : Int32} {v4 : Int32} {s0 : Int32} (h : jn_X10_by_83 I v1 v2 v4 s0 Q) : X E l rm_X10_by yX10_by cX10_by 7 (some .int) noX (ZM E rm_X10_by (Qi n R (P10 I0 L Q))) 83 [(0, .ref 336), (1, .int v1), (2, .int v2), (4, .int v4)] [.int s0, .ref 337] n I L R 0 0 := by
  unfold jn_X10_by_83 at h
  refine x_iload dX10_by_83 rfl ?_
  obtain ⟨b13, h⟩ := h
  refine x_iastore dX10_by_85 (km rfl hn) sh_337 b13 (fun I14 eI14 => ?_)
  have h := h I14 eI14
  refine x_aload_n dX10_by_86 rfl ?_
  refine x_cVv10 [] (mt_X10_loads hn hG h) dX10_by_87 lk_RX10_178 (km rfl hn) sh_336 rfl rfl (Nat.le_of_ble_eq_true rfl) (Rf_of rfl) (fun I15 h => ?_)
  refine x_aload_n dX10_by_90 rfl ?_
  refine x_iload_n dX10_by_91 rfl ?_
  refine x_iload_n dX10_by_92 rfl ?_
  refine x_cVi10 [.int v1, .int v2] (mt_X10_runs hn hG h) dX10_by_93 lk_RX10_220 (km rfl hn) sh_336 rfl rfl (Nat.le_of_ble_eq_true rfl) (Rf_of rfl) (fun x16 I17 h => ?_)
  refine x_istore (ls' := [(5, .int x16), (0, .ref 336), (1, .int v1), (2, .int v2), (4, .int v4)]) dX10_by_96 (Nat.le_of_ble_eq_true rfl) rfl ?_
  refine x_aload_n dX10_by_98 rfl ?_
  refine x_cVi00 [] (mt_X10_late hn hG h) dX10_by_99 lk_RX10_239 (km rfl hn) sh_336 rfl rfl (Nat.le_of_ble_eq_true rfl) (Rf_of rfl) (fun x18 h => ?_)
  refine x_istore (ls' := [(6, .int x18), (5, .int x16), (0, .ref 336), (1, .int v1), (2, .int v2), (4, .int v4)]) dX10_by_102 (Nat.le_of_ble_eq_true rfl) rfl ?_
  refine x_aload_n dX10_by_104 rfl ?_
  refine x_cVv10 [] (mt_X10_bringBack hn hG h) dX10_by_105 lk_RX10_147 (km rfl hn) sh_336 rfl rfl (Nat.le_of_ble_eq_true rfl) (Rf_of rfl) (fun I19 h => ?_)
  refine x_iload dX10_by_108 rfl ?_
  exact x_ireturn dX10_by_110 ⟨_, rfl, rfl, rfl, rfl, h⟩
def jn_X10_by_49 (I : MI) (v1 : Int32) (v2 : Int32) (v3 : Int32) (v4 : Int32) (s0 : Int32) (s1 : Int32) (s2 : Int32) (Q : Int32 → MI → Prop) : Prop :=
    (wp_X10_isIn s2 s1 s0 (fun x8 => (((¬ x8 = 0 → (wp_X10_putAside I (fun I10 => (((¬ v3 = 0 → ((¬ v3 = 1 → (jn_X10_by_83 I10 v1 v2 v4 2 Q)) ∧ (v3 = 1 → (jn_X10_by_83 I10 v1 v2 v4 3 Q)))) ∧ (v3 = 0 → (jn_X10_by_83 I10 v1 v2 v4 4 Q))))))) ∧ (x8 = 0 → Q (-1) I)))))
set_option maxRecDepth 20000 in
theorem jnt_X10_by_49 {E : Ev} {l : Launch} {n : Nat} {R : MR} (hn : 349 ≤ n) (hG : GRm R) {I0 : MI} {Q : Int32 → MI → Prop} {I : MI} {L : ML} {v1 : Int32} {v2 : Int32} {v3 : Int32} {v4 : Int32} {s0 : Int32} {s1 : Int32} {s2 : Int32} (h : jn_X10_by_49 I v1 v2 v3 v4 s0 s1 s2 Q) : X E l rm_X10_by yX10_by cX10_by 7 (some .int) noX (ZM E rm_X10_by (Qi n R (P10 I0 L Q))) 49 [(0, .ref 336), (1, .int v1), (2, .int v2), (3, .int v3), (4, .int v4)] [.int s0, .int s1, .int s2] n I L R 0 0 := by
  unfold jn_X10_by_49 at h
  refine x_cSi00 [.int s2, .int s1, .int s0] (mt_X10_isIn hn hG h) dX10_by_49 lk_RX10_51 rfl rfl (Nat.le_of_ble_eq_true rfl) (Rf_of rfl) (fun x8 h => ?_)
  refine x_if_ne dX10_by_52 (tgt := 57) rfl ⟨fun c9 => ?_, fun c9 => ?_⟩
  · have h := h.1 c9
    refine x_aload_n dX10_by_57 rfl ?_
    refine x_cVv10 [] (mt_X10_putAside hn hG h) dX10_by_58 lk_RX10_141 (km rfl hn) sh_336 rfl rfl (Nat.le_of_ble_eq_true rfl) (Rf_of rfl) (fun I10 h => ?_)
    refine x_aload_n dX10_by_61 rfl ?_
    refine x_getr (j := 337) dX10_by_62 fk_RX10_7 (km rfl hn) sh_336 (rt_336_1 hG) ?_
    refine x_iload_n dX10_by_65 rfl ?_
    refine x_if_ne dX10_by_66 (tgt := 73) rfl ⟨fun c11 => ?_, fun c11 => ?_⟩
    · have h := h.1 c11
      refine x_iload_n dX10_by_73 rfl ?_
      refine x_iconst (v := 1) dX10_by_74 ki_1 ?_
      refine x_icmp_ne dX10_by_75 (tgt := 82) rfl ⟨fun c12 => ?_, fun c12 => ?_⟩
      · have h := h.1 c12
        refine x_iconst (v := 2) dX10_by_82 ki_2 ?_
        refine x_ls (ls' := [(0, .ref 336), (1, .int v1), (2, .int v2), (4, .int v4)]) [0, 1, 2, 4] rfl ?_
        exact jnt_X10_by_83 hn hG  h
      · have h := h.2 c12
        refine x_iconst (v := 3) dX10_by_78 ki_3 ?_
        refine x_goto dX10_by_79 (tgt := 83) rfl ?_
        refine x_ls (ls' := [(0, .ref 336), (1, .int v1), (2, .int v2), (4, .int v4)]) [0, 1, 2, 4] rfl ?_
        exact jnt_X10_by_83 hn hG  h
    · have h := h.2 c11
      refine x_iconst (v := 4) dX10_by_69 ki_4 ?_
      refine x_goto dX10_by_70 (tgt := 83) rfl ?_
      refine x_ls (ls' := [(0, .ref 336), (1, .int v1), (2, .int v2), (4, .int v4)]) [0, 1, 2, 4] rfl ?_
      exact jnt_X10_by_83 hn hG  h
  · have h := h.2 c9
    refine x_iconst (v := (-1)) dX10_by_55 ki_m1 ?_
    exact x_ireturn dX10_by_56 ⟨_, rfl, rfl, rfl, rfl, h⟩
def jn_X10_by_31 (I : MI) (v1 : Int32) (v2 : Int32) (v3 : Int32) (v4 : Int32) (s0 : Int32) (s1 : Int32) (Q : Int32 → MI → Prop) : Prop :=
    ((¬ v3 = 0 → ((¬ v3 = 1 → (jn_X10_by_49 I v1 v2 v3 v4 3 s0 s1 Q)) ∧ (v3 = 1 → (jn_X10_by_49 I v1 v2 v3 v4 4 s0 s1 Q)))) ∧ (v3 = 0 → (jn_X10_by_49 I v1 v2 v3 v4 1 s0 s1 Q)))
set_option maxRecDepth 20000 in
theorem jnt_X10_by_31 {E : Ev} {l : Launch} {n : Nat} {R : MR} (hn : 349 ≤ n) (hG : GRm R) {I0 : MI} {Q : Int32 → MI → Prop} {I : MI} {L : ML} {v1 : Int32} {v2 : Int32} {v3 : Int32} {v4 : Int32} {s0 : Int32} {s1 : Int32} (h : jn_X10_by_31 I v1 v2 v3 v4 s0 s1 Q) : X E l rm_X10_by yX10_by cX10_by 7 (some .int) noX (ZM E rm_X10_by (Qi n R (P10 I0 L Q))) 31 [(0, .ref 336), (1, .int v1), (2, .int v2), (3, .int v3), (4, .int v4)] [.int s0, .int s1] n I L R 0 0 := by
  unfold jn_X10_by_31 at h
  refine x_iload_n dX10_by_31 rfl ?_
  refine x_if_ne dX10_by_32 (tgt := 39) rfl ⟨fun c6 => ?_, fun c6 => ?_⟩
  · have h := h.1 c6
    refine x_iload_n dX10_by_39 rfl ?_
    refine x_iconst (v := 1) dX10_by_40 ki_1 ?_
    refine x_icmp_ne dX10_by_41 (tgt := 48) rfl ⟨fun c7 => ?_, fun c7 => ?_⟩
    · have h := h.1 c7
      refine x_iconst (v := 3) dX10_by_48 ki_3 ?_
      exact jnt_X10_by_49 hn hG  h
    · have h := h.2 c7
      refine x_iconst (v := 4) dX10_by_44 ki_4 ?_
      refine x_goto dX10_by_45 (tgt := 49) rfl ?_
      exact jnt_X10_by_49 hn hG  h
  · have h := h.2 c6
    refine x_iconst (v := 1) dX10_by_35 ki_1 ?_
    refine x_goto dX10_by_36 (tgt := 49) rfl ?_
    exact jnt_X10_by_49 hn hG  h
def wp_X10_by (I : MI) (v1 : Int32) (v2 : Int32) (v3 : Int32) (v4 : Int32) (Q : Int32 → MI → Prop) : Prop :=
    (wp_X10_areDays I v1 12 (fun x1 => (((x1 = 0 → Q (-1) I) ∧ (¬ x1 = 0 → (wp_X10_isIn v3 0 2 (fun x3 => (((x3 = 0 → Q (-1) I) ∧ (¬ x3 = 0 → ((¬ v3 = 2 → (jn_X10_by_31 I v1 v2 v3 v4 0 v4 Q)) ∧ (v3 = 2 → (jn_X10_by_31 I v1 v2 v3 v4 1 v4 Q)))))))))))))
set_option maxRecDepth 20000 in
theorem mt_X10_by {E : Ev} {l : Launch} {n : Nat} {R : MR} (hn : 349 ≤ n) (hG : GRm R) {I : MI} {L : ML} {v1 : Int32} {v2 : Int32} {v3 : Int32} {v4 : Int32} {Q : Int32 → MI → Prop} (h : wp_X10_by I v1 v2 v3 v4 Q) : MX E l rm_X10_by yX10_by cX10_by 7 (some .int) [.ref 336, .int v1, .int v2, .int v3, .int v4] n I L R (Qi n R (P10 I L Q)) := by
  refine MX_of (ls := [(0, .ref 336), (1, .int v1), (2, .int v2), (3, .int v3), (4, .int v4)]) (by decide) (Nat.le_of_ble_eq_true rfl) rfl ?_
  unfold wp_X10_by at h
  refine x_aload_n dX10_by_0 rfl ?_
  refine x_iload_n dX10_by_1 rfl ?_
  refine x_bipush (v := 12) dX10_by_2 kb_12 ?_
  refine x_cVi00 [.int v1, .int 12] (mt_X10_areDays hn hG h) dX10_by_4 lk_RX10_217 (km rfl hn) sh_336 rfl rfl (Nat.le_of_ble_eq_true rfl) (Rf_of rfl) (fun x1 h => ?_)
  refine x_if_eq dX10_by_7 (tgt := 55) rfl ⟨fun c2 => ?_, fun c2 => ?_⟩
  · have h := h.1 c2
    refine x_iconst (v := (-1)) dX10_by_55 ki_m1 ?_
    exact x_ireturn dX10_by_56 ⟨_, rfl, rfl, rfl, rfl, h⟩
  · have h := h.2 c2
    refine x_iload_n dX10_by_10 rfl ?_
    refine x_iconst (v := 0) dX10_by_11 ki_0 ?_
    refine x_iconst (v := 2) dX10_by_12 ki_2 ?_
    refine x_cSi00 [.int v3, .int 0, .int 2] (mt_X10_isIn hn hG h) dX10_by_13 lk_RX10_51 rfl rfl (Nat.le_of_ble_eq_true rfl) (Rf_of rfl) (fun x3 h => ?_)
    refine x_if_eq dX10_by_16 (tgt := 55) rfl ⟨fun c4 => ?_, fun c4 => ?_⟩
    · have h := h.1 c4
      refine x_iconst (v := (-1)) dX10_by_55 ki_m1 ?_
      exact x_ireturn dX10_by_56 ⟨_, rfl, rfl, rfl, rfl, h⟩
    · have h := h.2 c4
      refine x_iload dX10_by_19 rfl ?_
      refine x_iload_n dX10_by_21 rfl ?_
      refine x_iconst (v := 2) dX10_by_22 ki_2 ?_
      refine x_icmp_ne dX10_by_23 (tgt := 30) rfl ⟨fun c5 => ?_, fun c5 => ?_⟩
      · have h := h.1 c5
        refine x_iconst (v := 0) dX10_by_30 ki_0 ?_
        exact jnt_X10_by_31 hn hG  h
      · have h := h.2 c5
        refine x_iconst (v := 1) dX10_by_26 ki_1 ?_
        refine x_goto dX10_by_27 (tgt := 31) rfl ?_
        exact jnt_X10_by_31 hn hG  h
abbrev rm_X10_bestKeep : Room := { frames := 7, cells := 0, slots := 0, locals := 171 }
def jn_X10_bestKeep_72 (I : MI) (v3 : Int32) (v5 : Int32) (s0 : Int32) (kj27 : Int32 → Int32 → Int32 → MI → Prop) : Prop :=
    kj27 v3 s0 (v5 + 1) I
set_option maxRecDepth 20000 in
theorem jnt_X10_bestKeep_72 {E : Ev} {l : Launch} {n : Nat} {R : MR} (hn : 349 ≤ n) (hG : GRm R) {I0 : MI} {Q : Int32 → MI → Prop} {I : MI} {L : ML} {v1 : Int32} {v2 : Int32} {v3 : Int32} {v5 : Int32} {s0 : Int32} {kj27 : Int32 → Int32 → Int32 → MI → Prop}
    (hJ27 : ∀ (v3 : Int32) (v4 : Int32) (v5 : Int32) (I : MI), kj27 v3 v4 v5 I → X E l rm_X10_bestKeep yX10_bestKeep cX10_bestKeep 7 (some .int) noX (ZM E rm_X10_bestKeep (Qi n R (P10 I0 L Q))) 27 [(0, .ref 336), (1, .int v1), (2, .int v2), (3, .int v3), (4, .int v4), (5, .int v5)] [] n I L R 0 0) (h : jn_X10_bestKeep_72 I v3 v5 s0 kj27) : X E l rm_X10_bestKeep yX10_bestKeep cX10_bestKeep 7 (some .int) noX (ZM E rm_X10_bestKeep (Qi n R (P10 I0 L Q))) 72 [(0, .ref 336), (1, .int v1), (2, .int v2), (3, .int v3), (5, .int v5)] [.int s0] n I L R 0 0 := by
  unfold jn_X10_bestKeep_72 at h
  refine x_istore (ls' := [(4, .int s0), (0, .ref 336), (1, .int v1), (2, .int v2), (3, .int v3), (5, .int v5)]) dX10_bestKeep_72 (Nat.le_of_ble_eq_true rfl) rfl ?_
  refine x_iinc (v := v5 + 1) (ls' := [(5, .int (v5 + 1)), (4, .int s0), (0, .ref 336), (1, .int v1), (2, .int v2), (3, .int v3)]) dX10_bestKeep_74 rfl (congrArg (_ + ·) ki_1) (Nat.le_of_ble_eq_true rfl) rfl ?_
  refine x_goto dX10_bestKeep_77 (tgt := 27) rfl ?_
  refine x_ls (ls' := [(0, .ref 336), (1, .int v1), (2, .int v2), (3, .int v3), (4, .int s0), (5, .int (v5 + 1))]) [2, 3, 4, 5, 1, 0] rfl ?_
  exact hJ27 v3 s0 (v5 + 1) I h
def jn_X10_bestKeep_57 (I : MI) (v4 : Int32) (v5 : Int32) (v6 : Int32) (s0 : Int32) (kj27 : Int32 → Int32 → Int32 → MI → Prop) : Prop :=
    ((v4 ≤ v6 → (jn_X10_bestKeep_72 I s0 v5 v4 (fun x10 x11 x12 I13 => kj27 x10 x11 x12 I13))) ∧ (¬ v4 ≤ v6 → (jn_X10_bestKeep_72 I s0 v5 v6 (fun x14 x15 x16 I17 => kj27 x14 x15 x16 I17))))
set_option maxRecDepth 20000 in
theorem jnt_X10_bestKeep_57 {E : Ev} {l : Launch} {n : Nat} {R : MR} (hn : 349 ≤ n) (hG : GRm R) {I0 : MI} {Q : Int32 → MI → Prop} {I : MI} {L : ML} {v1 : Int32} {v2 : Int32} {v4 : Int32} {v5 : Int32} {v6 : Int32} {s0 : Int32} {kj27 : Int32 → Int32 → Int32 → MI → Prop}
    (hJ27 : ∀ (v3 : Int32) (v4 : Int32) (v5 : Int32) (I : MI), kj27 v3 v4 v5 I → X E l rm_X10_bestKeep yX10_bestKeep cX10_bestKeep 7 (some .int) noX (ZM E rm_X10_bestKeep (Qi n R (P10 I0 L Q))) 27 [(0, .ref 336), (1, .int v1), (2, .int v2), (3, .int v3), (4, .int v4), (5, .int v5)] [] n I L R 0 0) (h : jn_X10_bestKeep_57 I v4 v5 v6 s0 kj27) : X E l rm_X10_bestKeep yX10_bestKeep cX10_bestKeep 7 (some .int) noX (ZM E rm_X10_bestKeep (Qi n R (P10 I0 L Q))) 57 [(0, .ref 336), (1, .int v1), (2, .int v2), (4, .int v4), (5, .int v5), (6, .int v6)] [.int s0] n I L R 0 0 := by
  unfold jn_X10_bestKeep_57 at h
  refine x_istore_n (ls' := [(3, .int s0), (0, .ref 336), (1, .int v1), (2, .int v2), (4, .int v4), (5, .int v5), (6, .int v6)]) dX10_bestKeep_57 (Nat.le_of_ble_eq_true rfl) rfl ?_
  refine x_iload dX10_bestKeep_58 rfl ?_
  refine x_iload dX10_bestKeep_60 rfl ?_
  refine x_icmp_ge dX10_bestKeep_62 (tgt := 70) rfl ⟨fun c9 => ?_, fun c9 => ?_⟩
  · have h := h.1 c9
    refine x_iload dX10_bestKeep_70 rfl ?_
    refine x_ls (ls' := [(0, .ref 336), (1, .int v1), (2, .int v2), (3, .int s0), (5, .int v5)]) [1, 2, 3, 0, 5] rfl ?_
    refine jnt_X10_bestKeep_72 hn hG (fun x10 x11 x12 I13 h => ?_) h
    exact hJ27 x10 x11 x12 I13 h
  · have h := h.2 c9
    refine x_iload dX10_bestKeep_65 rfl ?_
    refine x_goto dX10_bestKeep_67 (tgt := 72) rfl ?_
    refine x_ls (ls' := [(0, .ref 336), (1, .int v1), (2, .int v2), (3, .int s0), (5, .int v5)]) [1, 2, 3, 0, 5] rfl ?_
    refine jnt_X10_bestKeep_72 hn hG (fun x14 x15 x16 I17 h => ?_) h
    exact hJ27 x14 x15 x16 I17 h
def lp_X10_bestKeep_27 (v1 : Int32) (v2 : Int32) (Q : Int32 → MI → Prop) : Nat → Int32 → Int32 → Int32 → MI → Prop
  | 0, _, _, _, _ => False
  | n + 1, v3, v4, v5, I =>
    ((5 ≤ v5 → Q v3 I) ∧ (¬ 5 ≤ v5 → (wp_X10_by I v1 v2 1 v5 (fun x6 I7 => (((v4 ≤ x6 → (jn_X10_bestKeep_57 I7 v4 v5 x6 v3 (fun x18 x19 x20 I21 => (lp_X10_bestKeep_27 v1 v2 Q n x18 x19 x20 I21)))) ∧ (¬ v4 ≤ x6 → (jn_X10_bestKeep_57 I7 v4 v5 x6 v5 (fun x22 x23 x24 I25 => (lp_X10_bestKeep_27 v1 v2 Q n x22 x23 x24 I25))))))))))
set_option maxRecDepth 20000 in
theorem lpt_X10_bestKeep_27 {E : Ev} {l : Launch} {n : Nat} {R : MR} (hn : 349 ≤ n) (hG : GRm R) {I0 : MI} {Q : Int32 → MI → Prop} {v1 : Int32} {v2 : Int32} {L : ML} : ∀ (N : Nat) (v3 : Int32) (v4 : Int32) (v5 : Int32) (I : MI), lp_X10_bestKeep_27 v1 v2 Q N v3 v4 v5 I → X E l rm_X10_bestKeep yX10_bestKeep cX10_bestKeep 7 (some .int) noX (ZM E rm_X10_bestKeep (Qi n R (P10 I0 L Q))) 27 [(0, .ref 336), (1, .int v1), (2, .int v2), (3, .int v3), (4, .int v4), (5, .int v5)] [] n I L R 0 0 := by
  intro N
  induction N with
  | zero => intro v3 v4 v5 I h; exact False.elim h
  | succ N ih =>
    intro v3 v4 v5 I h
    unfold lp_X10_bestKeep_27 at h
    refine x_iload dX10_bestKeep_27 rfl ?_
    refine x_iconst (v := 5) dX10_bestKeep_29 ki_5 ?_
    refine x_icmp_ge dX10_bestKeep_30 (tgt := 80) rfl ⟨fun c5 => ?_, fun c5 => ?_⟩
    · have h := h.1 c5
      refine x_iload_n dX10_bestKeep_80 rfl ?_
      exact x_ireturn dX10_bestKeep_81 ⟨_, rfl, rfl, rfl, rfl, h⟩
    · have h := h.2 c5
      refine x_aload_n dX10_bestKeep_33 rfl ?_
      refine x_iload_n dX10_bestKeep_34 rfl ?_
      refine x_iload_n dX10_bestKeep_35 rfl ?_
      refine x_iconst (v := 1) dX10_bestKeep_36 ki_1 ?_
      refine x_iload dX10_bestKeep_37 rfl ?_
      refine x_cVi10 [.int v1, .int v2, .int 1, .int v5] (mt_X10_by hn hG h) dX10_bestKeep_39 lk_RX10_294 (km rfl hn) sh_336 rfl rfl (Nat.le_of_ble_eq_true rfl) (Rf_of rfl) (fun x6 I7 h => ?_)
      refine x_istore (ls' := [(6, .int x6), (0, .ref 336), (1, .int v1), (2, .int v2), (3, .int v3), (4, .int v4), (5, .int v5)]) dX10_bestKeep_42 (Nat.le_of_ble_eq_true rfl) rfl ?_
      refine x_iload dX10_bestKeep_44 rfl ?_
      refine x_iload dX10_bestKeep_46 rfl ?_
      refine x_icmp_ge dX10_bestKeep_48 (tgt := 56) rfl ⟨fun c8 => ?_, fun c8 => ?_⟩
      · have h := h.1 c8
        refine x_iload_n dX10_bestKeep_56 rfl ?_
        refine x_ls (ls' := [(0, .ref 336), (1, .int v1), (2, .int v2), (4, .int v4), (5, .int v5), (6, .int x6)]) [1, 2, 3, 5, 6, 0] rfl ?_
        refine jnt_X10_bestKeep_57 hn hG (fun x18 x19 x20 I21 h => ?_) h
        exact ih x18 x19 x20 I21 h
      · have h := h.2 c8
        refine x_iload dX10_bestKeep_51 rfl ?_
        refine x_goto dX10_bestKeep_53 (tgt := 57) rfl ?_
        refine x_ls (ls' := [(0, .ref 336), (1, .int v1), (2, .int v2), (4, .int v4), (5, .int v5), (6, .int x6)]) [1, 2, 3, 5, 6, 0] rfl ?_
        refine jnt_X10_bestKeep_57 hn hG (fun x22 x23 x24 I25 h => ?_) h
        exact ih x22 x23 x24 I25 h
def wp_X10_bestKeep (I : MI) (v1 : Int32) (v2 : Int32) (Q : Int32 → MI → Prop) : Prop :=
    (wp_X10_areDays I v1 12 (fun x1 => (((¬ x1 = 0 → (wp_X10_by I v1 v2 1 0 (fun x3 I4 => ((∃ N26, lp_X10_bestKeep_27 v1 v2 Q N26 0 x3 1 I4))))) ∧ (x1 = 0 → Q (-1) I)))))
set_option maxRecDepth 20000 in
theorem mt_X10_bestKeep {E : Ev} {l : Launch} {n : Nat} {R : MR} (hn : 349 ≤ n) (hG : GRm R) {I : MI} {L : ML} {v1 : Int32} {v2 : Int32} {Q : Int32 → MI → Prop} (h : wp_X10_bestKeep I v1 v2 Q) : MX E l rm_X10_bestKeep yX10_bestKeep cX10_bestKeep 7 (some .int) [.ref 336, .int v1, .int v2] n I L R (Qi n R (P10 I L Q)) := by
  refine MX_of (ls := [(0, .ref 336), (1, .int v1), (2, .int v2)]) (by decide) (Nat.le_of_ble_eq_true rfl) rfl ?_
  unfold wp_X10_bestKeep at h
  refine x_aload_n dX10_bestKeep_0 rfl ?_
  refine x_iload_n dX10_bestKeep_1 rfl ?_
  refine x_bipush (v := 12) dX10_bestKeep_2 kb_12 ?_
  refine x_cVi00 [.int v1, .int 12] (mt_X10_areDays hn hG h) dX10_bestKeep_4 lk_RX10_217 (km rfl hn) sh_336 rfl rfl (Nat.le_of_ble_eq_true rfl) (Rf_of rfl) (fun x1 h => ?_)
  refine x_if_ne dX10_bestKeep_7 (tgt := 12) rfl ⟨fun c2 => ?_, fun c2 => ?_⟩
  · have h := h.1 c2
    refine x_iconst (v := 0) dX10_bestKeep_12 ki_0 ?_
    refine x_istore_n (ls' := [(3, .int 0), (0, .ref 336), (1, .int v1), (2, .int v2)]) dX10_bestKeep_13 (Nat.le_of_ble_eq_true rfl) rfl ?_
    refine x_aload_n dX10_bestKeep_14 rfl ?_
    refine x_iload_n dX10_bestKeep_15 rfl ?_
    refine x_iload_n dX10_bestKeep_16 rfl ?_
    refine x_iconst (v := 1) dX10_bestKeep_17 ki_1 ?_
    refine x_iconst (v := 0) dX10_bestKeep_18 ki_0 ?_
    refine x_cVi10 [.int v1, .int v2, .int 1, .int 0] (mt_X10_by hn hG h) dX10_bestKeep_19 lk_RX10_294 (km rfl hn) sh_336 rfl rfl (Nat.le_of_ble_eq_true rfl) (Rf_of rfl) (fun x3 I4 h => ?_)
    refine x_istore (ls' := [(4, .int x3), (3, .int 0), (0, .ref 336), (1, .int v1), (2, .int v2)]) dX10_bestKeep_22 (Nat.le_of_ble_eq_true rfl) rfl ?_
    refine x_iconst (v := 1) dX10_bestKeep_24 ki_1 ?_
    refine x_istore (ls' := [(5, .int 1), (4, .int x3), (3, .int 0), (0, .ref 336), (1, .int v1), (2, .int v2)]) dX10_bestKeep_25 (Nat.le_of_ble_eq_true rfl) rfl ?_
    refine x_ls (ls' := [(0, .ref 336), (1, .int v1), (2, .int v2), (3, .int 0), (4, .int x3), (5, .int 1)]) [3, 4, 5, 2, 1, 0] rfl ?_
    obtain ⟨N26, h⟩ := h
    exact lpt_X10_bestKeep_27 hn hG  N26 0 x3 1 I4 h
  · have h := h.2 c2
    refine x_iconst (v := (-1)) dX10_bestKeep_10 ki_m1 ?_
    exact x_ireturn dX10_bestKeep_11 ⟨_, rfl, rfl, rfl, rfl, h⟩
abbrev rm_X10_call : Room := { frames := 2, cells := 0, slots := 0, locals := 43 }
def jn_X10_call_89 (v4 : Int32) (v5 : Int32) (kj29 : Int32 → Int32 → Prop) : Prop :=
    kj29 v4 (v5 + 1)
set_option maxRecDepth 20000 in
theorem jnt_X10_call_89 {E : Ev} {l : Launch} {n : Nat} {R : MR} (hn : 349 ≤ n) (hG : GRm R) {Q : Int32 → Prop} {I : MI} {L : ML} {v1 : Int32} {v3 : Int32} {v4 : Int32} {v5 : Int32} {kj29 : Int32 → Int32 → Prop}
    (hJ29 : ∀ (v4 : Int32) (v5 : Int32), kj29 v4 v5 → X E l rm_X10_call yX10_call cX10_call 6 (some .int) noX (ZM E rm_X10_call (Qi n R (P00 I L Q))) 29 [(0, .ref 336), (1, .int v1), (3, .int v3), (4, .int v4), (5, .int v5)] [] n I L R 0 0) (h : jn_X10_call_89 v4 v5 kj29) : X E l rm_X10_call yX10_call cX10_call 6 (some .int) noX (ZM E rm_X10_call (Qi n R (P00 I L Q))) 89 [(0, .ref 336), (1, .int v1), (3, .int v3), (4, .int v4), (5, .int v5)] [] n I L R 0 0 := by
  unfold jn_X10_call_89 at h
  refine x_iinc (v := v5 + 1) (ls' := [(5, .int (v5 + 1)), (0, .ref 336), (1, .int v1), (3, .int v3), (4, .int v4)]) dX10_call_89 rfl (congrArg (_ + ·) ki_1) (Nat.le_of_ble_eq_true rfl) rfl ?_
  refine x_goto dX10_call_92 (tgt := 29) rfl ?_
  refine x_ls (ls' := [(0, .ref 336), (1, .int v1), (3, .int v3), (4, .int v4), (5, .int (v5 + 1))]) [1, 2, 3, 4, 0] rfl ?_
  exact hJ29 v4 (v5 + 1) h
def lp_X10_call_29 (I : MI) (v1 : Int32) (Q : Int32 → Prop) (kf68 : Int32 → Prop) : Nat → Int32 → Int32 → Prop
  | 0, _, _ => False
  | n + 1, v4, v5 =>
    (vp_in 15 2212 ∧ (((I 337 (ix 15)) ≤ v5 → Q (-1)) ∧ (¬ (I 337 (ix 15)) ≤ v5 → (vp_in ((412 + (3 * v5)) + 1) 2212 ∧ (((I 337 (ix ((412 + (3 * v5)) + 1))) = v1 → ((¬ v4 = 0 → (jn_X10_call_89 (v4 + (-1)) v5 (fun x11 x12 => (lp_X10_call_29 I v1 Q kf68 n x11 x12)))) ∧ (v4 = 0 → kf68 v5))) ∧ (¬ (I 337 (ix ((412 + (3 * v5)) + 1))) = v1 → (jn_X10_call_89 v4 v5 (fun x13 x14 => (lp_X10_call_29 I v1 Q kf68 n x13 x14)))))))))
set_option maxRecDepth 20000 in
theorem lpt_X10_call_29 {E : Ev} {l : Launch} {n : Nat} {R : MR} (hn : 349 ≤ n) (hG : GRm R) {Q : Int32 → Prop} {v1 : Int32} {v3 : Int32} {I : MI} {L : ML} {kf68 : Int32 → Prop}
    (hK68 : ∀ (v5 : Int32), kf68 v5 → X E l rm_X10_call yX10_call cX10_call 6 (some .int) noX (ZM E rm_X10_call (Qi n R (P00 I L Q))) 68 [(0, .ref 336), (3, .int v3), (5, .int v5)] [] n I L R 0 0) : ∀ (N : Nat) (v4 : Int32) (v5 : Int32), lp_X10_call_29 I v1 Q kf68 N v4 v5 → X E l rm_X10_call yX10_call cX10_call 6 (some .int) noX (ZM E rm_X10_call (Qi n R (P00 I L Q))) 29 [(0, .ref 336), (1, .int v1), (3, .int v3), (4, .int v4), (5, .int v5)] [] n I L R 0 0 := by
  intro N
  induction N with
  | zero => intro v4 v5 h; exact False.elim h
  | succ N ih =>
    intro v4 v5 h
    unfold lp_X10_call_29 at h
    refine x_iload dX10_call_29 rfl ?_
    refine x_aload_n dX10_call_31 rfl ?_
    refine x_getr (j := 337) dX10_call_32 fk_RX10_7 (km rfl hn) sh_336 (rt_336_1 hG) ?_
    refine x_bipush (v := 15) dX10_call_35 kb_15 ?_
    obtain ⟨b6, h⟩ := h
    refine x_iaload dX10_call_37 (km rfl hn) sh_337 b6 ?_
    refine x_icmp_ge dX10_call_38 (tgt := 95) rfl ⟨fun c7 => ?_, fun c7 => ?_⟩
    · have h := h.1 c7
      refine x_iconst (v := (-1)) dX10_call_95 ki_m1 ?_
      exact x_ireturn dX10_call_96 ⟨_, rfl, rfl, rfl, rfl, rfl, h⟩
    · have h := h.2 c7
      refine x_aload_n dX10_call_41 rfl ?_
      refine x_getr (j := 337) dX10_call_42 fk_RX10_7 (km rfl hn) sh_336 (rt_336_1 hG) ?_
      refine x_sipush (v := 412) dX10_call_45 ks_412 ?_
      refine x_iconst (v := 3) dX10_call_48 ki_3 ?_
      refine x_iload dX10_call_49 rfl ?_
      refine x_imul dX10_call_51 ?_
      refine x_iadd dX10_call_52 ?_
      refine x_iconst (v := 1) dX10_call_53 ki_1 ?_
      refine x_iadd dX10_call_54 ?_
      obtain ⟨b8, h⟩ := h
      refine x_iaload dX10_call_55 (km rfl hn) sh_337 b8 ?_
      refine x_iload_n dX10_call_56 rfl ?_
      refine x_icmp_eq dX10_call_57 (tgt := 63) rfl ⟨fun c9 => ?_, fun c9 => ?_⟩
      · have h := h.1 c9
        refine x_iload dX10_call_63 rfl ?_
        refine x_if_ne dX10_call_65 (tgt := 86) rfl ⟨fun c10 => ?_, fun c10 => ?_⟩
        · have h := h.1 c10
          refine x_iinc (v := v4 + (-1)) (ls' := [(4, .int (v4 + (-1))), (0, .ref 336), (1, .int v1), (3, .int v3), (5, .int v5)]) dX10_call_86 rfl (congrArg (_ + ·) ki_m1) (Nat.le_of_ble_eq_true rfl) rfl ?_
          refine x_ls (ls' := [(0, .ref 336), (1, .int v1), (3, .int v3), (4, .int (v4 + (-1))), (5, .int v5)]) [1, 2, 3, 0, 4] rfl ?_
          refine jnt_X10_call_89 hn hG (fun x11 x12 h => ?_) h
          exact ih x11 x12 h
        · have h := h.2 c10
          refine x_ls (ls' := [(0, .ref 336), (3, .int v3), (5, .int v5)]) [0, 2, 4] rfl ?_
          exact hK68 v5 h
      · have h := h.2 c9
        refine x_goto dX10_call_60 (tgt := 89) rfl ?_
        refine jnt_X10_call_89 hn hG (fun x13 x14 h => ?_) h
        exact ih x13 x14 h
def wp_X10_call (I : MI) (v1 : Int32) (v2 : Int32) (v3 : Int32) (Q : Int32 → Prop) : Prop :=
    (wp_X10_isPart I v1 (fun x1 => (((x1 = 0 → Q (-1)) ∧ (¬ x1 = 0 → ((v2 < 0 → Q (-1)) ∧ (¬ v2 < 0 → (wp_X10_isIn v3 0 1 (fun x4 => (((¬ x4 = 0 → (∃ N15, lp_X10_call_29 I v1 Q (fun x16 => (vp_in ((412 + (3 * x16)) + (2 * v3)) 2212 ∧ Q (I 337 (ix ((412 + (3 * x16)) + (2 * v3)))))) N15 v2 0)) ∧ (x4 = 0 → Q (-1)))))))))))))
set_option maxRecDepth 20000 in
theorem mt_X10_call {E : Ev} {l : Launch} {n : Nat} {R : MR} (hn : 349 ≤ n) (hG : GRm R) {I : MI} {L : ML} {v1 : Int32} {v2 : Int32} {v3 : Int32} {Q : Int32 → Prop} (h : wp_X10_call I v1 v2 v3 Q) : MX E l rm_X10_call yX10_call cX10_call 6 (some .int) [.ref 336, .int v1, .int v2, .int v3] n I L R (Qi n R (P00 I L Q)) := by
  refine MX_of (ls := [(0, .ref 336), (1, .int v1), (2, .int v2), (3, .int v3)]) (by decide) (Nat.le_of_ble_eq_true rfl) rfl ?_
  unfold wp_X10_call at h
  refine x_aload_n dX10_call_0 rfl ?_
  refine x_iload_n dX10_call_1 rfl ?_
  refine x_cVi00 [.int v1] (mt_X10_isPart hn hG h) dX10_call_2 lk_RX10_59 (km rfl hn) sh_336 rfl rfl (Nat.le_of_ble_eq_true rfl) (Rf_of rfl) (fun x1 h => ?_)
  refine x_if_eq dX10_call_5 (tgt := 21) rfl ⟨fun c2 => ?_, fun c2 => ?_⟩
  · have h := h.1 c2
    refine x_iconst (v := (-1)) dX10_call_21 ki_m1 ?_
    exact x_ireturn dX10_call_22 ⟨_, rfl, rfl, rfl, rfl, rfl, h⟩
  · have h := h.2 c2
    refine x_iload_n dX10_call_8 rfl ?_
    refine x_if_lt dX10_call_9 (tgt := 21) rfl ⟨fun c3 => ?_, fun c3 => ?_⟩
    · have h := h.1 c3
      refine x_iconst (v := (-1)) dX10_call_21 ki_m1 ?_
      exact x_ireturn dX10_call_22 ⟨_, rfl, rfl, rfl, rfl, rfl, h⟩
    · have h := h.2 c3
      refine x_iload_n dX10_call_12 rfl ?_
      refine x_iconst (v := 0) dX10_call_13 ki_0 ?_
      refine x_iconst (v := 1) dX10_call_14 ki_1 ?_
      refine x_cSi00 [.int v3, .int 0, .int 1] (mt_X10_isIn hn hG h) dX10_call_15 lk_RX10_51 rfl rfl (Nat.le_of_ble_eq_true rfl) (Rf_of rfl) (fun x4 h => ?_)
      refine x_if_ne dX10_call_18 (tgt := 23) rfl ⟨fun c5 => ?_, fun c5 => ?_⟩
      · have h := h.1 c5
        refine x_iload_n dX10_call_23 rfl ?_
        refine x_istore (ls' := [(4, .int v2), (0, .ref 336), (1, .int v1), (2, .int v2), (3, .int v3)]) dX10_call_24 (Nat.le_of_ble_eq_true rfl) rfl ?_
        refine x_iconst (v := 0) dX10_call_26 ki_0 ?_
        refine x_istore (ls' := [(5, .int 0), (4, .int v2), (0, .ref 336), (1, .int v1), (2, .int v2), (3, .int v3)]) dX10_call_27 (Nat.le_of_ble_eq_true rfl) rfl ?_
        refine x_ls (ls' := [(0, .ref 336), (1, .int v1), (3, .int v3), (4, .int v2), (5, .int 0)]) [2, 3, 5, 1, 0] rfl ?_
        obtain ⟨N15, h⟩ := h
        refine lpt_X10_call_29 hn hG (fun x16 h => ?_) N15 v2 0 h
        refine x_aload_n dX10_call_68 rfl ?_
        refine x_getr (j := 337) dX10_call_69 fk_RX10_7 (km rfl hn) sh_336 (rt_336_1 hG) ?_
        refine x_sipush (v := 412) dX10_call_72 ks_412 ?_
        refine x_iconst (v := 3) dX10_call_75 ki_3 ?_
        refine x_iload dX10_call_76 rfl ?_
        refine x_imul dX10_call_78 ?_
        refine x_iadd dX10_call_79 ?_
        refine x_iconst (v := 2) dX10_call_80 ki_2 ?_
        refine x_iload_n dX10_call_81 rfl ?_
        refine x_imul dX10_call_82 ?_
        refine x_iadd dX10_call_83 ?_
        obtain ⟨b17, h⟩ := h
        refine x_iaload dX10_call_84 (km rfl hn) sh_337 b17 ?_
        exact x_ireturn dX10_call_85 ⟨_, rfl, rfl, rfl, rfl, rfl, h⟩
      · have h := h.2 c5
        refine x_iconst (v := (-1)) dX10_call_21 ki_m1 ?_
        exact x_ireturn dX10_call_22 ⟨_, rfl, rfl, rfl, rfl, rfl, h⟩
abbrev rm_X10_callsOfPart : Room := { frames := 1, cells := 0, slots := 0, locals := 24 }
def lp_X10_callsOfPart_4 (I : MI) (v1 : Int32) (Q : Int32 → Prop) : Nat → Int32 → Int32 → Prop
  | 0, _, _ => False
  | n + 1, v2, v3 =>
    (vp_in 1 2212 ∧ (((I 337 (ix 1)) ≤ v3 → Q v2) ∧ (¬ (I 337 (ix 1)) ≤ v3 → (wp_X10_callsOf I v3 v1 (fun x3 => ((lp_X10_callsOfPart_4 I v1 Q n (v2 + x3) (v3 + 1))))))))
set_option maxRecDepth 20000 in
theorem lpt_X10_callsOfPart_4 {E : Ev} {l : Launch} {n : Nat} {R : MR} (hn : 349 ≤ n) (hG : GRm R) {Q : Int32 → Prop} {v1 : Int32} {I : MI} {L : ML} : ∀ (N : Nat) (v2 : Int32) (v3 : Int32), lp_X10_callsOfPart_4 I v1 Q N v2 v3 → X E l rm_X10_callsOfPart yX10_callsOfPart cX10_callsOfPart 4 (some .int) noX (ZM E rm_X10_callsOfPart (Qi n R (P00 I L Q))) 4 [(0, .ref 336), (1, .int v1), (2, .int v2), (3, .int v3)] [] n I L R 0 0 := by
  intro N
  induction N with
  | zero => intro v2 v3 h; exact False.elim h
  | succ N ih =>
    intro v2 v3 h
    unfold lp_X10_callsOfPart_4 at h
    refine x_iload_n dX10_callsOfPart_4 rfl ?_
    refine x_aload_n dX10_callsOfPart_5 rfl ?_
    refine x_getr (j := 337) dX10_callsOfPart_6 fk_RX10_7 (km rfl hn) sh_336 (rt_336_1 hG) ?_
    refine x_iconst (v := 1) dX10_callsOfPart_9 ki_1 ?_
    obtain ⟨b1, h⟩ := h
    refine x_iaload dX10_callsOfPart_10 (km rfl hn) sh_337 b1 ?_
    refine x_icmp_ge dX10_callsOfPart_11 (tgt := 29) rfl ⟨fun c2 => ?_, fun c2 => ?_⟩
    · have h := h.1 c2
      refine x_iload_n dX10_callsOfPart_29 rfl ?_
      exact x_ireturn dX10_callsOfPart_30 ⟨_, rfl, rfl, rfl, rfl, rfl, h⟩
    · have h := h.2 c2
      refine x_iload_n dX10_callsOfPart_14 rfl ?_
      refine x_aload_n dX10_callsOfPart_15 rfl ?_
      refine x_iload_n dX10_callsOfPart_16 rfl ?_
      refine x_iload_n dX10_callsOfPart_17 rfl ?_
      refine x_cVi00 [.int v3, .int v1] (mt_X10_callsOf hn hG h) dX10_callsOfPart_18 lk_RX10_226 (km rfl hn) sh_336 rfl rfl (Nat.le_of_ble_eq_true rfl) (Rf_of rfl) (fun x3 h => ?_)
      refine x_iadd dX10_callsOfPart_21 ?_
      refine x_istore_n (ls' := [(2, .int (v2 + x3)), (0, .ref 336), (1, .int v1), (3, .int v3)]) dX10_callsOfPart_22 (Nat.le_of_ble_eq_true rfl) rfl ?_
      refine x_iinc (v := v3 + 1) (ls' := [(3, .int (v3 + 1)), (2, .int (v2 + x3)), (0, .ref 336), (1, .int v1)]) dX10_callsOfPart_23 rfl (congrArg (_ + ·) ki_1) (Nat.le_of_ble_eq_true rfl) rfl ?_
      refine x_goto dX10_callsOfPart_26 (tgt := 4) rfl ?_
      refine x_ls (ls' := [(0, .ref 336), (1, .int v1), (2, .int (v2 + x3)), (3, .int (v3 + 1))]) [2, 3, 1, 0] rfl ?_
      exact ih (v2 + x3) (v3 + 1) h
def wp_X10_callsOfPart (I : MI) (v1 : Int32) (Q : Int32 → Prop) : Prop :=
    (∃ N4, lp_X10_callsOfPart_4 I v1 Q N4 0 0)
set_option maxRecDepth 20000 in
theorem mt_X10_callsOfPart {E : Ev} {l : Launch} {n : Nat} {R : MR} (hn : 349 ≤ n) (hG : GRm R) {I : MI} {L : ML} {v1 : Int32} {Q : Int32 → Prop} (h : wp_X10_callsOfPart I v1 Q) : MX E l rm_X10_callsOfPart yX10_callsOfPart cX10_callsOfPart 4 (some .int) [.ref 336, .int v1] n I L R (Qi n R (P00 I L Q)) := by
  refine MX_of (ls := [(0, .ref 336), (1, .int v1)]) (by decide) (Nat.le_of_ble_eq_true rfl) rfl ?_
  unfold wp_X10_callsOfPart at h
  refine x_iconst (v := 0) dX10_callsOfPart_0 ki_0 ?_
  refine x_istore_n (ls' := [(2, .int 0), (0, .ref 336), (1, .int v1)]) dX10_callsOfPart_1 (Nat.le_of_ble_eq_true rfl) rfl ?_
  refine x_iconst (v := 0) dX10_callsOfPart_2 ki_0 ?_
  refine x_istore_n (ls' := [(3, .int 0), (2, .int 0), (0, .ref 336), (1, .int v1)]) dX10_callsOfPart_3 (Nat.le_of_ble_eq_true rfl) rfl ?_
  refine x_ls (ls' := [(0, .ref 336), (1, .int v1), (2, .int 0), (3, .int 0)]) [2, 3, 1, 0] rfl ?_
  obtain ⟨N4, h⟩ := h
  exact lpt_X10_callsOfPart_4 hn hG  N4 0 0 h
abbrev rm_X10_cell : Room := { frames := 3, cells := 0, slots := 0, locals := 65 }
def wp_X10_cell (I : MI) (v1 : Int32) (v2 : Int32) (v3 : Int32) (Q : Int32 → Prop) : Prop :=
    (wp_X10_isCell I v1 v2 (fun x1 => (((¬ x1 = 0 → (wp_X10_cellOf v1 v2 (fun x3 => (((v3 = 0 → (vp_in (32 + x3) 2212 ∧ Q (I 337 (ix (32 + x3))))) ∧ (¬ v3 = 0 → ((v3 = 1 → (vp_in (41 + x3) 2212 ∧ Q (I 337 (ix (41 + x3))))) ∧ (¬ v3 = 1 → ((v3 = 2 → (vp_in (50 + x3) 2212 ∧ Q (I 337 (ix (50 + x3))))) ∧ (¬ v3 = 2 → ((v3 = 3 → (vp_in (62 + x3) 2212 ∧ Q (I 337 (ix (62 + x3))))) ∧ (¬ v3 = 3 → ((v3 = 4 → (vp_in (74 + x3) 2212 ∧ Q (I 337 (ix (74 + x3))))) ∧ (¬ v3 = 4 → ((v3 = 5 → (wp_X10_callsOf I v1 v2 (fun x15 => (Q x15)))) ∧ (¬ v3 = 5 → ((v3 = 6 → (wp_X10_waysOf I 3 v2 v1 (fun x17 => ((wp_X10_waysOf I 4 v2 v1 (fun x18 => (Q (x17 + x18)))))))) ∧ (¬ v3 = 6 → ((v3 = 7 → (wp_X10_waysOf I 0 v2 v1 (fun x20 => (Q x20)))) ∧ (¬ v3 = 7 → ((v3 = 8 → (vp_in (83 + x3) 2212 ∧ Q (I 337 (ix (83 + x3))))) ∧ (¬ v3 = 8 → Q (-1))))))))))))))))))))))) ∧ (x1 = 0 → ((¬ v3 = 8 → Q (-1)) ∧ (v3 = 8 → Q (-1000))))))))
set_option maxRecDepth 20000 in
theorem mt_X10_cell {E : Ev} {l : Launch} {n : Nat} {R : MR} (hn : 349 ≤ n) (hG : GRm R) {I : MI} {L : ML} {v1 : Int32} {v2 : Int32} {v3 : Int32} {Q : Int32 → Prop} (h : wp_X10_cell I v1 v2 v3 Q) : MX E l rm_X10_cell yX10_cell cX10_cell 5 (some .int) [.ref 336, .int v1, .int v2, .int v3] n I L R (Qi n R (P00 I L Q)) := by
  refine MX_of (ls := [(0, .ref 336), (1, .int v1), (2, .int v2), (3, .int v3)]) (by decide) (Nat.le_of_ble_eq_true rfl) rfl ?_
  unfold wp_X10_cell at h
  refine x_aload_n dX10_cell_0 rfl ?_
  refine x_iload_n dX10_cell_1 rfl ?_
  refine x_iload_n dX10_cell_2 rfl ?_
  refine x_cVi00 [.int v1, .int v2] (mt_X10_isCell hn hG h) dX10_cell_3 lk_RX10_211 (km rfl hn) sh_336 rfl rfl (Nat.le_of_ble_eq_true rfl) (Rf_of rfl) (fun x1 h => ?_)
  refine x_if_ne dX10_cell_6 (tgt := 23) rfl ⟨fun c2 => ?_, fun c2 => ?_⟩
  · have h := h.1 c2
    refine x_iload_n dX10_cell_23 rfl ?_
    refine x_iload_n dX10_cell_24 rfl ?_
    refine x_cSi00 [.int v1, .int v2] (mt_X10_cellOf hn hG h) dX10_cell_25 lk_RX10_104 rfl rfl (Nat.le_of_ble_eq_true rfl) (Rf_of rfl) (fun x3 h => ?_)
    refine x_istore (ls' := [(4, .int x3), (0, .ref 336), (1, .int v1), (2, .int v2), (3, .int v3)]) dX10_cell_28 (Nat.le_of_ble_eq_true rfl) rfl ?_
    refine x_iload_n dX10_cell_30 rfl ?_
    rcases Classical.em (v3 = 0) with c4 | c4
    · have h := h.1 c4
      refine x_tabIn (tgt := 80) dX10_cell_31 (by rw [c4]; decide) (by rw [c4]; decide) (off := 49) (by rw [c4]; rfl) rfl ?_
      refine x_aload_n dX10_cell_80 rfl ?_
      refine x_getr (j := 337) dX10_cell_81 fk_RX10_7 (km rfl hn) sh_336 (rt_336_1 hG) ?_
      refine x_bipush (v := 32) dX10_cell_84 kb_32 ?_
      refine x_iload dX10_cell_86 rfl ?_
      refine x_iadd dX10_cell_88 ?_
      obtain ⟨b5, h⟩ := h
      refine x_iaload dX10_cell_89 (km rfl hn) sh_337 b5 ?_
      exact x_ireturn dX10_cell_90 ⟨_, rfl, rfl, rfl, rfl, rfl, h⟩
    · have h := h.2 c4
      rcases Classical.em (v3 = 1) with c6 | c6
      · have h := h.1 c6
        refine x_tabIn (tgt := 91) dX10_cell_31 (by rw [c6]; decide) (by rw [c6]; decide) (off := 60) (by rw [c6]; rfl) rfl ?_
        refine x_aload_n dX10_cell_91 rfl ?_
        refine x_getr (j := 337) dX10_cell_92 fk_RX10_7 (km rfl hn) sh_336 (rt_336_1 hG) ?_
        refine x_bipush (v := 41) dX10_cell_95 kb_41 ?_
        refine x_iload dX10_cell_97 rfl ?_
        refine x_iadd dX10_cell_99 ?_
        obtain ⟨b7, h⟩ := h
        refine x_iaload dX10_cell_100 (km rfl hn) sh_337 b7 ?_
        exact x_ireturn dX10_cell_101 ⟨_, rfl, rfl, rfl, rfl, rfl, h⟩
      · have h := h.2 c6
        rcases Classical.em (v3 = 2) with c8 | c8
        · have h := h.1 c8
          refine x_tabIn (tgt := 102) dX10_cell_31 (by rw [c8]; decide) (by rw [c8]; decide) (off := 71) (by rw [c8]; rfl) rfl ?_
          refine x_aload_n dX10_cell_102 rfl ?_
          refine x_getr (j := 337) dX10_cell_103 fk_RX10_7 (km rfl hn) sh_336 (rt_336_1 hG) ?_
          refine x_bipush (v := 50) dX10_cell_106 kb_50 ?_
          refine x_iload dX10_cell_108 rfl ?_
          refine x_iadd dX10_cell_110 ?_
          obtain ⟨b9, h⟩ := h
          refine x_iaload dX10_cell_111 (km rfl hn) sh_337 b9 ?_
          exact x_ireturn dX10_cell_112 ⟨_, rfl, rfl, rfl, rfl, rfl, h⟩
        · have h := h.2 c8
          rcases Classical.em (v3 = 3) with c10 | c10
          · have h := h.1 c10
            refine x_tabIn (tgt := 113) dX10_cell_31 (by rw [c10]; decide) (by rw [c10]; decide) (off := 82) (by rw [c10]; rfl) rfl ?_
            refine x_aload_n dX10_cell_113 rfl ?_
            refine x_getr (j := 337) dX10_cell_114 fk_RX10_7 (km rfl hn) sh_336 (rt_336_1 hG) ?_
            refine x_bipush (v := 62) dX10_cell_117 kb_62 ?_
            refine x_iload dX10_cell_119 rfl ?_
            refine x_iadd dX10_cell_121 ?_
            obtain ⟨b11, h⟩ := h
            refine x_iaload dX10_cell_122 (km rfl hn) sh_337 b11 ?_
            exact x_ireturn dX10_cell_123 ⟨_, rfl, rfl, rfl, rfl, rfl, h⟩
          · have h := h.2 c10
            rcases Classical.em (v3 = 4) with c12 | c12
            · have h := h.1 c12
              refine x_tabIn (tgt := 124) dX10_cell_31 (by rw [c12]; decide) (by rw [c12]; decide) (off := 93) (by rw [c12]; rfl) rfl ?_
              refine x_aload_n dX10_cell_124 rfl ?_
              refine x_getr (j := 337) dX10_cell_125 fk_RX10_7 (km rfl hn) sh_336 (rt_336_1 hG) ?_
              refine x_bipush (v := 74) dX10_cell_128 kb_74 ?_
              refine x_iload dX10_cell_130 rfl ?_
              refine x_iadd dX10_cell_132 ?_
              obtain ⟨b13, h⟩ := h
              refine x_iaload dX10_cell_133 (km rfl hn) sh_337 b13 ?_
              exact x_ireturn dX10_cell_134 ⟨_, rfl, rfl, rfl, rfl, rfl, h⟩
            · have h := h.2 c12
              rcases Classical.em (v3 = 5) with c14 | c14
              · have h := h.1 c14
                refine x_tabIn (tgt := 135) dX10_cell_31 (by rw [c14]; decide) (by rw [c14]; decide) (off := 104) (by rw [c14]; rfl) rfl ?_
                refine x_aload_n dX10_cell_135 rfl ?_
                refine x_iload_n dX10_cell_136 rfl ?_
                refine x_iload_n dX10_cell_137 rfl ?_
                refine x_cVi00 [.int v1, .int v2] (mt_X10_callsOf hn hG h) dX10_cell_138 lk_RX10_226 (km rfl hn) sh_336 rfl rfl (Nat.le_of_ble_eq_true rfl) (Rf_of rfl) (fun x15 h => ?_)
                exact x_ireturn dX10_cell_141 ⟨_, rfl, rfl, rfl, rfl, rfl, h⟩
              · have h := h.2 c14
                rcases Classical.em (v3 = 6) with c16 | c16
                · have h := h.1 c16
                  refine x_tabIn (tgt := 142) dX10_cell_31 (by rw [c16]; decide) (by rw [c16]; decide) (off := 111) (by rw [c16]; rfl) rfl ?_
                  refine x_aload_n dX10_cell_142 rfl ?_
                  refine x_iconst (v := 3) dX10_cell_143 ki_3 ?_
                  refine x_iload_n dX10_cell_144 rfl ?_
                  refine x_iload_n dX10_cell_145 rfl ?_
                  refine x_cVi00 [.int 3, .int v2, .int v1] (mt_X10_waysOf hn hG h) dX10_cell_146 lk_RX10_235 (km rfl hn) sh_336 rfl rfl (Nat.le_of_ble_eq_true rfl) (Rf_of rfl) (fun x17 h => ?_)
                  refine x_aload_n dX10_cell_149 rfl ?_
                  refine x_iconst (v := 4) dX10_cell_150 ki_4 ?_
                  refine x_iload_n dX10_cell_151 rfl ?_
                  refine x_iload_n dX10_cell_152 rfl ?_
                  refine x_cVi00 [.int 4, .int v2, .int v1] (mt_X10_waysOf hn hG h) dX10_cell_153 lk_RX10_235 (km rfl hn) sh_336 rfl rfl (Nat.le_of_ble_eq_true rfl) (Rf_of rfl) (fun x18 h => ?_)
                  refine x_iadd dX10_cell_156 ?_
                  exact x_ireturn dX10_cell_157 ⟨_, rfl, rfl, rfl, rfl, rfl, h⟩
                · have h := h.2 c16
                  rcases Classical.em (v3 = 7) with c19 | c19
                  · have h := h.1 c19
                    refine x_tabIn (tgt := 158) dX10_cell_31 (by rw [c19]; decide) (by rw [c19]; decide) (off := 127) (by rw [c19]; rfl) rfl ?_
                    refine x_aload_n dX10_cell_158 rfl ?_
                    refine x_iconst (v := 0) dX10_cell_159 ki_0 ?_
                    refine x_iload_n dX10_cell_160 rfl ?_
                    refine x_iload_n dX10_cell_161 rfl ?_
                    refine x_cVi00 [.int 0, .int v2, .int v1] (mt_X10_waysOf hn hG h) dX10_cell_162 lk_RX10_235 (km rfl hn) sh_336 rfl rfl (Nat.le_of_ble_eq_true rfl) (Rf_of rfl) (fun x20 h => ?_)
                    exact x_ireturn dX10_cell_165 ⟨_, rfl, rfl, rfl, rfl, rfl, h⟩
                  · have h := h.2 c19
                    rcases Classical.em (v3 = 8) with c21 | c21
                    · have h := h.1 c21
                      refine x_tabIn (tgt := 166) dX10_cell_31 (by rw [c21]; decide) (by rw [c21]; decide) (off := 135) (by rw [c21]; rfl) rfl ?_
                      refine x_aload_n dX10_cell_166 rfl ?_
                      refine x_getr (j := 337) dX10_cell_167 fk_RX10_7 (km rfl hn) sh_336 (rt_336_1 hG) ?_
                      refine x_bipush (v := 83) dX10_cell_170 kb_83 ?_
                      refine x_iload dX10_cell_172 rfl ?_
                      refine x_iadd dX10_cell_174 ?_
                      obtain ⟨b22, h⟩ := h
                      refine x_iaload dX10_cell_175 (km rfl hn) sh_337 b22 ?_
                      exact x_ireturn dX10_cell_176 ⟨_, rfl, rfl, rfl, rfl, rfl, h⟩
                    · have h := h.2 c21
                      refine x_tabOut (tgt := 177) dX10_cell_31 (sw_out 8 rfl (sw_9 c4 c6 c8 c10 c12 c14 c16 c19 c21)) rfl ?_
                      refine x_iconst (v := (-1)) dX10_cell_177 ki_m1 ?_
                      exact x_ireturn dX10_cell_178 ⟨_, rfl, rfl, rfl, rfl, rfl, h⟩
  · have h := h.2 c2
    refine x_iload_n dX10_cell_9 rfl ?_
    refine x_bipush (v := 8) dX10_cell_10 kb_8 ?_
    refine x_icmp_ne dX10_cell_12 (tgt := 21) rfl ⟨fun c23 => ?_, fun c23 => ?_⟩
    · have h := h.1 c23
      refine x_iconst (v := (-1)) dX10_cell_21 ki_m1 ?_
      exact x_ireturn dX10_cell_22 ⟨_, rfl, rfl, rfl, rfl, rfl, h⟩
    · have h := h.2 c23
      refine x_sipush (v := (-1000)) dX10_cell_15 ks_m1000 ?_
      refine x_goto dX10_cell_18 (tgt := 22) rfl ?_
      exact x_ireturn dX10_cell_22 ⟨_, rfl, rfl, rfl, rfl, rfl, h⟩
abbrev rm_X10_sumOf : Room := { frames := 0, cells := 0, slots := 0, locals := 0 }
def lp_X10_sumOf_5 (I : MI) (v1 : Int32) (v2 : Int32) (Q : Int32 → Prop) : Nat → Int32 → Int32 → Prop
  | 0, _, _ => False
  | n + 1, v3, v4 =>
    ((v2 ≤ v4 → Q v3) ∧ (¬ v2 ≤ v4 → (vp_in (v1 + v4) 2212 ∧ (lp_X10_sumOf_5 I v1 v2 Q n (v3 + (I 337 (ix (v1 + v4)))) (v4 + 1)))))
set_option maxRecDepth 20000 in
theorem lpt_X10_sumOf_5 {E : Ev} {l : Launch} {n : Nat} {R : MR} (hn : 349 ≤ n) (hG : GRm R) {Q : Int32 → Prop} {v1 : Int32} {v2 : Int32} {I : MI} {L : ML} : ∀ (N : Nat) (v3 : Int32) (v4 : Int32), lp_X10_sumOf_5 I v1 v2 Q N v3 v4 → X E l rm_X10_sumOf yX10_sumOf cX10_sumOf 5 (some .int) noX (ZM E rm_X10_sumOf (Qi n R (P00 I L Q))) 5 [(0, .ref 336), (1, .int v1), (2, .int v2), (3, .int v3), (4, .int v4)] [] n I L R 0 0 := by
  intro N
  induction N with
  | zero => intro v3 v4 h; exact False.elim h
  | succ N ih =>
    intro v3 v4 h
    unfold lp_X10_sumOf_5 at h
    refine x_iload dX10_sumOf_5 rfl ?_
    refine x_iload_n dX10_sumOf_7 rfl ?_
    refine x_icmp_ge dX10_sumOf_8 (tgt := 29) rfl ⟨fun c1 => ?_, fun c1 => ?_⟩
    · have h := h.1 c1
      refine x_iload_n dX10_sumOf_29 rfl ?_
      exact x_ireturn dX10_sumOf_30 ⟨_, rfl, rfl, rfl, rfl, rfl, h⟩
    · have h := h.2 c1
      refine x_iload_n dX10_sumOf_11 rfl ?_
      refine x_aload_n dX10_sumOf_12 rfl ?_
      refine x_getr (j := 337) dX10_sumOf_13 fk_RX10_7 (km rfl hn) sh_336 (rt_336_1 hG) ?_
      refine x_iload_n dX10_sumOf_16 rfl ?_
      refine x_iload dX10_sumOf_17 rfl ?_
      refine x_iadd dX10_sumOf_19 ?_
      obtain ⟨b2, h⟩ := h
      refine x_iaload dX10_sumOf_20 (km rfl hn) sh_337 b2 ?_
      refine x_iadd dX10_sumOf_21 ?_
      refine x_istore_n (ls' := [(3, .int (v3 + (I 337 (ix (v1 + v4))))), (0, .ref 336), (1, .int v1), (2, .int v2), (4, .int v4)]) dX10_sumOf_22 (Nat.le_of_ble_eq_true rfl) rfl ?_
      refine x_iinc (v := v4 + 1) (ls' := [(4, .int (v4 + 1)), (3, .int (v3 + (I 337 (ix (v1 + v4))))), (0, .ref 336), (1, .int v1), (2, .int v2)]) dX10_sumOf_23 rfl (congrArg (_ + ·) ki_1) (Nat.le_of_ble_eq_true rfl) rfl ?_
      refine x_goto dX10_sumOf_26 (tgt := 5) rfl ?_
      refine x_ls (ls' := [(0, .ref 336), (1, .int v1), (2, .int v2), (3, .int (v3 + (I 337 (ix (v1 + v4))))), (4, .int (v4 + 1))]) [2, 3, 4, 1, 0] rfl ?_
      exact ih (v3 + (I 337 (ix (v1 + v4)))) (v4 + 1) h
def wp_X10_sumOf (I : MI) (v1 : Int32) (v2 : Int32) (Q : Int32 → Prop) : Prop :=
    (∃ N3, lp_X10_sumOf_5 I v1 v2 Q N3 0 0)
set_option maxRecDepth 20000 in
theorem mt_X10_sumOf {E : Ev} {l : Launch} {n : Nat} {R : MR} (hn : 349 ≤ n) (hG : GRm R) {I : MI} {L : ML} {v1 : Int32} {v2 : Int32} {Q : Int32 → Prop} (h : wp_X10_sumOf I v1 v2 Q) : MX E l rm_X10_sumOf yX10_sumOf cX10_sumOf 5 (some .int) [.ref 336, .int v1, .int v2] n I L R (Qi n R (P00 I L Q)) := by
  refine MX_of (ls := [(0, .ref 336), (1, .int v1), (2, .int v2)]) (by decide) (Nat.le_of_ble_eq_true rfl) rfl ?_
  unfold wp_X10_sumOf at h
  refine x_iconst (v := 0) dX10_sumOf_0 ki_0 ?_
  refine x_istore_n (ls' := [(3, .int 0), (0, .ref 336), (1, .int v1), (2, .int v2)]) dX10_sumOf_1 (Nat.le_of_ble_eq_true rfl) rfl ?_
  refine x_iconst (v := 0) dX10_sumOf_2 ki_0 ?_
  refine x_istore (ls' := [(4, .int 0), (3, .int 0), (0, .ref 336), (1, .int v1), (2, .int v2)]) dX10_sumOf_3 (Nat.le_of_ble_eq_true rfl) rfl ?_
  refine x_ls (ls' := [(0, .ref 336), (1, .int v1), (2, .int v2), (3, .int 0), (4, .int 0)]) [2, 3, 4, 1, 0] rfl ?_
  obtain ⟨N3, h⟩ := h
  exact lpt_X10_sumOf_5 hn hG  N3 0 0 h
abbrev rm_X10_count : Room := { frames := 1, cells := 0, slots := 0, locals := 24 }
def wp_X10_count (I : MI) (v1 : Int32) (Q : Int32 → Prop) : Prop :=
    ((v1 = 0 → (vp_in 0 2212 ∧ Q (I 337 (ix 0)))) ∧ (¬ v1 = 0 → ((v1 = 1 → (vp_in 1 2212 ∧ Q (I 337 (ix 1)))) ∧ (¬ v1 = 1 → ((v1 = 2 → (vp_in 2 2212 ∧ Q (I 337 (ix 2)))) ∧ (¬ v1 = 2 → ((v1 = 3 → (vp_in 3 2212 ∧ Q (I 337 (ix 3)))) ∧ (¬ v1 = 3 → ((v1 = 4 → (vp_in 4 2212 ∧ Q (I 337 (ix 4)))) ∧ (¬ v1 = 4 → ((v1 = 5 → Q (I 336 4)) ∧ (¬ v1 = 5 → ((v1 = 6 → Q (I 336 6)) ∧ (¬ v1 = 6 → ((v1 = 7 → (wp_X10_sumOf I 32 9 (fun x14 => (Q x14)))) ∧ (¬ v1 = 7 → ((v1 = 8 → (wp_X10_sumOf I 50 9 (fun x16 => (Q x16)))) ∧ (¬ v1 = 8 → ((v1 = 9 → (vp_in 13 2212 ∧ Q (I 337 (ix 13)))) ∧ (¬ v1 = 9 → Q (-1)))))))))))))))))))))
set_option maxRecDepth 20000 in
theorem mt_X10_count {E : Ev} {l : Launch} {n : Nat} {R : MR} (hn : 349 ≤ n) (hG : GRm R) {I : MI} {L : ML} {v1 : Int32} {Q : Int32 → Prop} (h : wp_X10_count I v1 Q) : MX E l rm_X10_count yX10_count cX10_count 2 (some .int) [.ref 336, .int v1] n I L R (Qi n R (P00 I L Q)) := by
  refine MX_of (ls := [(0, .ref 336), (1, .int v1)]) (by decide) (Nat.le_of_ble_eq_true rfl) rfl ?_
  unfold wp_X10_count at h
  refine x_iload_n dX10_count_0 rfl ?_
  rcases Classical.em (v1 = 0) with c1 | c1
  · have h := h.1 c1
    refine x_tabIn (tgt := 56) dX10_count_1 (by rw [c1]; decide) (by rw [c1]; decide) (off := 55) (by rw [c1]; rfl) rfl ?_
    refine x_aload_n dX10_count_56 rfl ?_
    refine x_getr (j := 337) dX10_count_57 fk_RX10_7 (km rfl hn) sh_336 (rt_336_1 hG) ?_
    refine x_iconst (v := 0) dX10_count_60 ki_0 ?_
    obtain ⟨b2, h⟩ := h
    refine x_iaload dX10_count_61 (km rfl hn) sh_337 b2 ?_
    exact x_ireturn dX10_count_62 ⟨_, rfl, rfl, rfl, rfl, rfl, h⟩
  · have h := h.2 c1
    rcases Classical.em (v1 = 1) with c3 | c3
    · have h := h.1 c3
      refine x_tabIn (tgt := 63) dX10_count_1 (by rw [c3]; decide) (by rw [c3]; decide) (off := 62) (by rw [c3]; rfl) rfl ?_
      refine x_aload_n dX10_count_63 rfl ?_
      refine x_getr (j := 337) dX10_count_64 fk_RX10_7 (km rfl hn) sh_336 (rt_336_1 hG) ?_
      refine x_iconst (v := 1) dX10_count_67 ki_1 ?_
      obtain ⟨b4, h⟩ := h
      refine x_iaload dX10_count_68 (km rfl hn) sh_337 b4 ?_
      exact x_ireturn dX10_count_69 ⟨_, rfl, rfl, rfl, rfl, rfl, h⟩
    · have h := h.2 c3
      rcases Classical.em (v1 = 2) with c5 | c5
      · have h := h.1 c5
        refine x_tabIn (tgt := 70) dX10_count_1 (by rw [c5]; decide) (by rw [c5]; decide) (off := 69) (by rw [c5]; rfl) rfl ?_
        refine x_aload_n dX10_count_70 rfl ?_
        refine x_getr (j := 337) dX10_count_71 fk_RX10_7 (km rfl hn) sh_336 (rt_336_1 hG) ?_
        refine x_iconst (v := 2) dX10_count_74 ki_2 ?_
        obtain ⟨b6, h⟩ := h
        refine x_iaload dX10_count_75 (km rfl hn) sh_337 b6 ?_
        exact x_ireturn dX10_count_76 ⟨_, rfl, rfl, rfl, rfl, rfl, h⟩
      · have h := h.2 c5
        rcases Classical.em (v1 = 3) with c7 | c7
        · have h := h.1 c7
          refine x_tabIn (tgt := 77) dX10_count_1 (by rw [c7]; decide) (by rw [c7]; decide) (off := 76) (by rw [c7]; rfl) rfl ?_
          refine x_aload_n dX10_count_77 rfl ?_
          refine x_getr (j := 337) dX10_count_78 fk_RX10_7 (km rfl hn) sh_336 (rt_336_1 hG) ?_
          refine x_iconst (v := 3) dX10_count_81 ki_3 ?_
          obtain ⟨b8, h⟩ := h
          refine x_iaload dX10_count_82 (km rfl hn) sh_337 b8 ?_
          exact x_ireturn dX10_count_83 ⟨_, rfl, rfl, rfl, rfl, rfl, h⟩
        · have h := h.2 c7
          rcases Classical.em (v1 = 4) with c9 | c9
          · have h := h.1 c9
            refine x_tabIn (tgt := 84) dX10_count_1 (by rw [c9]; decide) (by rw [c9]; decide) (off := 83) (by rw [c9]; rfl) rfl ?_
            refine x_aload_n dX10_count_84 rfl ?_
            refine x_getr (j := 337) dX10_count_85 fk_RX10_7 (km rfl hn) sh_336 (rt_336_1 hG) ?_
            refine x_iconst (v := 4) dX10_count_88 ki_4 ?_
            obtain ⟨b10, h⟩ := h
            refine x_iaload dX10_count_89 (km rfl hn) sh_337 b10 ?_
            exact x_ireturn dX10_count_90 ⟨_, rfl, rfl, rfl, rfl, rfl, h⟩
          · have h := h.2 c9
            rcases Classical.em (v1 = 5) with c11 | c11
            · have h := h.1 c11
              refine x_tabIn (tgt := 91) dX10_count_1 (by rw [c11]; decide) (by rw [c11]; decide) (off := 90) (by rw [c11]; rfl) rfl ?_
              refine x_aload_n dX10_count_91 rfl ?_
              refine x_geti dX10_count_92 fk_RX10_153 (km rfl hn) sh_336 ?_
              exact x_ireturn dX10_count_95 ⟨_, rfl, rfl, rfl, rfl, rfl, h⟩
            · have h := h.2 c11
              rcases Classical.em (v1 = 6) with c12 | c12
              · have h := h.1 c12
                refine x_tabIn (tgt := 96) dX10_count_1 (by rw [c12]; decide) (by rw [c12]; decide) (off := 95) (by rw [c12]; rfl) rfl ?_
                refine x_aload_n dX10_count_96 rfl ?_
                refine x_geti dX10_count_97 fk_RX10_62 (km rfl hn) sh_336 ?_
                exact x_ireturn dX10_count_100 ⟨_, rfl, rfl, rfl, rfl, rfl, h⟩
              · have h := h.2 c12
                rcases Classical.em (v1 = 7) with c13 | c13
                · have h := h.1 c13
                  refine x_tabIn (tgt := 101) dX10_count_1 (by rw [c13]; decide) (by rw [c13]; decide) (off := 100) (by rw [c13]; rfl) rfl ?_
                  refine x_aload_n dX10_count_101 rfl ?_
                  refine x_bipush (v := 32) dX10_count_102 kb_32 ?_
                  refine x_bipush (v := 9) dX10_count_104 kb_9 ?_
                  refine x_cVi00 [.int 32, .int 9] (mt_X10_sumOf hn hG h) dX10_count_106 lk_RX10_320 (km rfl hn) sh_336 rfl rfl (Nat.le_of_ble_eq_true rfl) (Rf_of rfl) (fun x14 h => ?_)
                  exact x_ireturn dX10_count_109 ⟨_, rfl, rfl, rfl, rfl, rfl, h⟩
                · have h := h.2 c13
                  rcases Classical.em (v1 = 8) with c15 | c15
                  · have h := h.1 c15
                    refine x_tabIn (tgt := 110) dX10_count_1 (by rw [c15]; decide) (by rw [c15]; decide) (off := 109) (by rw [c15]; rfl) rfl ?_
                    refine x_aload_n dX10_count_110 rfl ?_
                    refine x_bipush (v := 50) dX10_count_111 kb_50 ?_
                    refine x_bipush (v := 9) dX10_count_113 kb_9 ?_
                    refine x_cVi00 [.int 50, .int 9] (mt_X10_sumOf hn hG h) dX10_count_115 lk_RX10_320 (km rfl hn) sh_336 rfl rfl (Nat.le_of_ble_eq_true rfl) (Rf_of rfl) (fun x16 h => ?_)
                    exact x_ireturn dX10_count_118 ⟨_, rfl, rfl, rfl, rfl, rfl, h⟩
                  · have h := h.2 c15
                    rcases Classical.em (v1 = 9) with c17 | c17
                    · have h := h.1 c17
                      refine x_tabIn (tgt := 119) dX10_count_1 (by rw [c17]; decide) (by rw [c17]; decide) (off := 118) (by rw [c17]; rfl) rfl ?_
                      refine x_aload_n dX10_count_119 rfl ?_
                      refine x_getr (j := 337) dX10_count_120 fk_RX10_7 (km rfl hn) sh_336 (rt_336_1 hG) ?_
                      refine x_bipush (v := 13) dX10_count_123 kb_13 ?_
                      obtain ⟨b18, h⟩ := h
                      refine x_iaload dX10_count_125 (km rfl hn) sh_337 b18 ?_
                      exact x_ireturn dX10_count_126 ⟨_, rfl, rfl, rfl, rfl, rfl, h⟩
                    · have h := h.2 c17
                      refine x_tabOut (tgt := 127) dX10_count_1 (sw_out 9 rfl (sw_10 c1 c3 c5 c7 c9 c11 c12 c13 c15 c17)) rfl ?_
                      refine x_iconst (v := (-1)) dX10_count_127 ki_m1 ?_
                      exact x_ireturn dX10_count_128 ⟨_, rfl, rfl, rfl, rfl, rfl, h⟩
abbrev rm_X10_mostLate : Room := { frames := 0, cells := 0, slots := 0, locals := 0 }
def jn_X10_mostLate_52 (v2 : Int32) (s0 : Int32) (kj10 : Int32 → Int32 → Prop) : Prop :=
    kj10 s0 (v2 + 1)
set_option maxRecDepth 20000 in
theorem jnt_X10_mostLate_52 {E : Ev} {l : Launch} {n : Nat} {R : MR} (hn : 349 ≤ n) (hG : GRm R) {Q : Int32 → Prop} {I : MI} {L : ML} {v2 : Int32} {s0 : Int32} {kj10 : Int32 → Int32 → Prop}
    (hJ10 : ∀ (v1 : Int32) (v2 : Int32), kj10 v1 v2 → X E l rm_X10_mostLate yX10_mostLate cX10_mostLate 4 (some .int) noX (ZM E rm_X10_mostLate (Qi n R (P00 I L Q))) 10 [(0, .ref 336), (1, .int v1), (2, .int v2)] [] n I L R 0 0) (h : jn_X10_mostLate_52 v2 s0 kj10) : X E l rm_X10_mostLate yX10_mostLate cX10_mostLate 4 (some .int) noX (ZM E rm_X10_mostLate (Qi n R (P00 I L Q))) 52 [(0, .ref 336), (2, .int v2)] [.int s0] n I L R 0 0 := by
  unfold jn_X10_mostLate_52 at h
  refine x_istore_n (ls' := [(1, .int s0), (0, .ref 336), (2, .int v2)]) dX10_mostLate_52 (Nat.le_of_ble_eq_true rfl) rfl ?_
  refine x_iinc (v := v2 + 1) (ls' := [(2, .int (v2 + 1)), (1, .int s0), (0, .ref 336)]) dX10_mostLate_53 rfl (congrArg (_ + ·) ki_1) (Nat.le_of_ble_eq_true rfl) rfl ?_
  refine x_goto dX10_mostLate_56 (tgt := 10) rfl ?_
  refine x_ls (ls' := [(0, .ref 336), (1, .int s0), (2, .int (v2 + 1))]) [2, 1, 0] rfl ?_
  exact hJ10 s0 (v2 + 1) h
def lp_X10_mostLate_10 (I : MI) (Q : Int32 → Prop) : Nat → Int32 → Int32 → Prop
  | 0, _, _ => False
  | n + 1, v1, v2 =>
    (vp_in 14 2212 ∧ (((I 337 (ix 14)) ≤ v2 → Q v1) ∧ (¬ (I 337 (ix 14)) ≤ v2 → (vp_in 5 2212 ∧ (vp_in ((92 + (4 * v2)) + 2) 2212 ∧ ((((I 337 (ix 5)) - (I 337 (ix ((92 + (4 * v2)) + 2)))) ≤ v1 → (jn_X10_mostLate_52 v2 v1 (fun x7 x8 => (lp_X10_mostLate_10 I Q n x7 x8)))) ∧ (¬ ((I 337 (ix 5)) - (I 337 (ix ((92 + (4 * v2)) + 2)))) ≤ v1 → (jn_X10_mostLate_52 v2 ((I 337 (ix 5)) - (I 337 (ix ((92 + (4 * v2)) + 2)))) (fun x9 x10 => (lp_X10_mostLate_10 I Q n x9 x10))))))))))
set_option maxRecDepth 20000 in
theorem lpt_X10_mostLate_10 {E : Ev} {l : Launch} {n : Nat} {R : MR} (hn : 349 ≤ n) (hG : GRm R) {Q : Int32 → Prop} {I : MI} {L : ML} : ∀ (N : Nat) (v1 : Int32) (v2 : Int32), lp_X10_mostLate_10 I Q N v1 v2 → X E l rm_X10_mostLate yX10_mostLate cX10_mostLate 4 (some .int) noX (ZM E rm_X10_mostLate (Qi n R (P00 I L Q))) 10 [(0, .ref 336), (1, .int v1), (2, .int v2)] [] n I L R 0 0 := by
  intro N
  induction N with
  | zero => intro v1 v2 h; exact False.elim h
  | succ N ih =>
    intro v1 v2 h
    unfold lp_X10_mostLate_10 at h
    refine x_iload_n dX10_mostLate_10 rfl ?_
    refine x_aload_n dX10_mostLate_11 rfl ?_
    refine x_getr (j := 337) dX10_mostLate_12 fk_RX10_7 (km rfl hn) sh_336 (rt_336_1 hG) ?_
    refine x_bipush (v := 14) dX10_mostLate_15 kb_14 ?_
    obtain ⟨b2, h⟩ := h
    refine x_iaload dX10_mostLate_17 (km rfl hn) sh_337 b2 ?_
    refine x_icmp_ge dX10_mostLate_18 (tgt := 59) rfl ⟨fun c3 => ?_, fun c3 => ?_⟩
    · have h := h.1 c3
      refine x_iload_n dX10_mostLate_59 rfl ?_
      exact x_ireturn dX10_mostLate_60 ⟨_, rfl, rfl, rfl, rfl, rfl, h⟩
    · have h := h.2 c3
      refine x_aload_n dX10_mostLate_21 rfl ?_
      refine x_getr (j := 337) dX10_mostLate_22 fk_RX10_7 (km rfl hn) sh_336 (rt_336_1 hG) ?_
      refine x_iconst (v := 5) dX10_mostLate_25 ki_5 ?_
      obtain ⟨b4, h⟩ := h
      refine x_iaload dX10_mostLate_26 (km rfl hn) sh_337 b4 ?_
      refine x_aload_n dX10_mostLate_27 rfl ?_
      refine x_getr (j := 337) dX10_mostLate_28 fk_RX10_7 (km rfl hn) sh_336 (rt_336_1 hG) ?_
      refine x_bipush (v := 92) dX10_mostLate_31 kb_92 ?_
      refine x_iconst (v := 4) dX10_mostLate_33 ki_4 ?_
      refine x_iload_n dX10_mostLate_34 rfl ?_
      refine x_imul dX10_mostLate_35 ?_
      refine x_iadd dX10_mostLate_36 ?_
      refine x_iconst (v := 2) dX10_mostLate_37 ki_2 ?_
      refine x_iadd dX10_mostLate_38 ?_
      obtain ⟨b5, h⟩ := h
      refine x_iaload dX10_mostLate_39 (km rfl hn) sh_337 b5 ?_
      refine x_isub dX10_mostLate_40 ?_
      refine x_istore_n (ls' := [(3, .int ((I 337 (ix 5)) - (I 337 (ix ((92 + (4 * v2)) + 2))))), (0, .ref 336), (1, .int v1), (2, .int v2)]) dX10_mostLate_41 (Nat.le_of_ble_eq_true rfl) rfl ?_
      refine x_iload_n dX10_mostLate_42 rfl ?_
      refine x_iload_n dX10_mostLate_43 rfl ?_
      refine x_icmp_le dX10_mostLate_44 (tgt := 51) rfl ⟨fun c6 => ?_, fun c6 => ?_⟩
      · have h := h.1 c6
        refine x_iload_n dX10_mostLate_51 rfl ?_
        refine x_ls (ls' := [(0, .ref 336), (2, .int v2)]) [1, 3] rfl ?_
        refine jnt_X10_mostLate_52 hn hG (fun x7 x8 h => ?_) h
        exact ih x7 x8 h
      · have h := h.2 c6
        refine x_iload_n dX10_mostLate_47 rfl ?_
        refine x_goto dX10_mostLate_48 (tgt := 52) rfl ?_
        refine x_ls (ls' := [(0, .ref 336), (2, .int v2)]) [1, 3] rfl ?_
        refine jnt_X10_mostLate_52 hn hG (fun x9 x10 h => ?_) h
        exact ih x9 x10 h
def wp_X10_mostLate (I : MI) (Q : Int32 → Prop) : Prop :=
    (vp_in 10 2212 ∧ (∃ N11, lp_X10_mostLate_10 I Q N11 (I 337 (ix 10)) 0))
set_option maxRecDepth 20000 in
theorem mt_X10_mostLate {E : Ev} {l : Launch} {n : Nat} {R : MR} (hn : 349 ≤ n) (hG : GRm R) {I : MI} {L : ML} {Q : Int32 → Prop} (h : wp_X10_mostLate I Q) : MX E l rm_X10_mostLate yX10_mostLate cX10_mostLate 4 (some .int) [.ref 336] n I L R (Qi n R (P00 I L Q)) := by
  refine MX_of (ls := [(0, .ref 336)]) (by decide) (Nat.le_of_ble_eq_true rfl) rfl ?_
  unfold wp_X10_mostLate at h
  refine x_aload_n dX10_mostLate_0 rfl ?_
  refine x_getr (j := 337) dX10_mostLate_1 fk_RX10_7 (km rfl hn) sh_336 (rt_336_1 hG) ?_
  refine x_bipush (v := 10) dX10_mostLate_4 kb_10 ?_
  obtain ⟨b1, h⟩ := h
  refine x_iaload dX10_mostLate_6 (km rfl hn) sh_337 b1 ?_
  refine x_istore_n (ls' := [(1, .int (I 337 (ix 10))), (0, .ref 336)]) dX10_mostLate_7 (Nat.le_of_ble_eq_true rfl) rfl ?_
  refine x_iconst (v := 0) dX10_mostLate_8 ki_0 ?_
  refine x_istore_n (ls' := [(2, .int 0), (1, .int (I 337 (ix 10))), (0, .ref 336)]) dX10_mostLate_9 (Nat.le_of_ble_eq_true rfl) rfl ?_
  refine x_ls (ls' := [(0, .ref 336), (1, .int (I 337 (ix 10))), (2, .int 0)]) [2, 1, 0] rfl ?_
  obtain ⟨N11, h⟩ := h
  exact lpt_X10_mostLate_10 hn hG  N11 (I 337 (ix 10)) 0 h
abbrev rm_X10_waiting : Room := { frames := 0, cells := 0, slots := 0, locals := 0 }
def jn_X10_waiting_35 (v3 : Int32) (s0 : Int32) (s1 : Int32) (kj4 : Int32 → Int32 → Prop) : Prop :=
    kj4 (s1 + s0) (v3 + 1)
set_option maxRecDepth 20000 in
theorem jnt_X10_waiting_35 {E : Ev} {l : Launch} {n : Nat} {R : MR} (hn : 349 ≤ n) (hG : GRm R) {Q : Int32 → Prop} {I : MI} {L : ML} {v1 : Int32} {v3 : Int32} {s0 : Int32} {s1 : Int32} {kj4 : Int32 → Int32 → Prop}
    (hJ4 : ∀ (v2 : Int32) (v3 : Int32), kj4 v2 v3 → X E l rm_X10_waiting yX10_waiting cX10_waiting 4 (some .int) noX (ZM E rm_X10_waiting (Qi n R (P00 I L Q))) 4 [(0, .ref 336), (1, .int v1), (2, .int v2), (3, .int v3)] [] n I L R 0 0) (h : jn_X10_waiting_35 v3 s0 s1 kj4) : X E l rm_X10_waiting yX10_waiting cX10_waiting 4 (some .int) noX (ZM E rm_X10_waiting (Qi n R (P00 I L Q))) 35 [(0, .ref 336), (1, .int v1), (3, .int v3)] [.int s0, .int s1] n I L R 0 0 := by
  unfold jn_X10_waiting_35 at h
  refine x_iadd dX10_waiting_35 ?_
  refine x_istore_n (ls' := [(2, .int (s1 + s0)), (0, .ref 336), (1, .int v1), (3, .int v3)]) dX10_waiting_36 (Nat.le_of_ble_eq_true rfl) rfl ?_
  refine x_iinc (v := v3 + 1) (ls' := [(3, .int (v3 + 1)), (2, .int (s1 + s0)), (0, .ref 336), (1, .int v1)]) dX10_waiting_37 rfl (congrArg (_ + ·) ki_1) (Nat.le_of_ble_eq_true rfl) rfl ?_
  refine x_goto dX10_waiting_40 (tgt := 4) rfl ?_
  refine x_ls (ls' := [(0, .ref 336), (1, .int v1), (2, .int (s1 + s0)), (3, .int (v3 + 1))]) [2, 3, 1, 0] rfl ?_
  exact hJ4 (s1 + s0) (v3 + 1) h
def lp_X10_waiting_4 (I : MI) (v1 : Int32) (Q : Int32 → Prop) : Nat → Int32 → Int32 → Prop
  | 0, _, _ => False
  | n + 1, v2, v3 =>
    (vp_in 17 2212 ∧ (((I 337 (ix 17)) ≤ v3 → Q v2) ∧ (¬ (I 337 (ix 17)) ≤ v3 → (vp_in (2012 + v3) 2212 ∧ ((¬ (I 337 (ix (2012 + v3))) = v1 → (jn_X10_waiting_35 v3 0 v2 (fun x5 x6 => (lp_X10_waiting_4 I v1 Q n x5 x6)))) ∧ ((I 337 (ix (2012 + v3))) = v1 → (jn_X10_waiting_35 v3 1 v2 (fun x7 x8 => (lp_X10_waiting_4 I v1 Q n x7 x8)))))))))
set_option maxRecDepth 20000 in
theorem lpt_X10_waiting_4 {E : Ev} {l : Launch} {n : Nat} {R : MR} (hn : 349 ≤ n) (hG : GRm R) {Q : Int32 → Prop} {v1 : Int32} {I : MI} {L : ML} : ∀ (N : Nat) (v2 : Int32) (v3 : Int32), lp_X10_waiting_4 I v1 Q N v2 v3 → X E l rm_X10_waiting yX10_waiting cX10_waiting 4 (some .int) noX (ZM E rm_X10_waiting (Qi n R (P00 I L Q))) 4 [(0, .ref 336), (1, .int v1), (2, .int v2), (3, .int v3)] [] n I L R 0 0 := by
  intro N
  induction N with
  | zero => intro v2 v3 h; exact False.elim h
  | succ N ih =>
    intro v2 v3 h
    unfold lp_X10_waiting_4 at h
    refine x_iload_n dX10_waiting_4 rfl ?_
    refine x_aload_n dX10_waiting_5 rfl ?_
    refine x_getr (j := 337) dX10_waiting_6 fk_RX10_7 (km rfl hn) sh_336 (rt_336_1 hG) ?_
    refine x_bipush (v := 17) dX10_waiting_9 kb_17 ?_
    obtain ⟨b1, h⟩ := h
    refine x_iaload dX10_waiting_11 (km rfl hn) sh_337 b1 ?_
    refine x_icmp_ge dX10_waiting_12 (tgt := 43) rfl ⟨fun c2 => ?_, fun c2 => ?_⟩
    · have h := h.1 c2
      refine x_iload_n dX10_waiting_43 rfl ?_
      exact x_ireturn dX10_waiting_44 ⟨_, rfl, rfl, rfl, rfl, rfl, h⟩
    · have h := h.2 c2
      refine x_iload_n dX10_waiting_15 rfl ?_
      refine x_aload_n dX10_waiting_16 rfl ?_
      refine x_getr (j := 337) dX10_waiting_17 fk_RX10_7 (km rfl hn) sh_336 (rt_336_1 hG) ?_
      refine x_sipush (v := 2012) dX10_waiting_20 ks_2012 ?_
      refine x_iload_n dX10_waiting_23 rfl ?_
      refine x_iadd dX10_waiting_24 ?_
      obtain ⟨b3, h⟩ := h
      refine x_iaload dX10_waiting_25 (km rfl hn) sh_337 b3 ?_
      refine x_iload_n dX10_waiting_26 rfl ?_
      refine x_icmp_ne dX10_waiting_27 (tgt := 34) rfl ⟨fun c4 => ?_, fun c4 => ?_⟩
      · have h := h.1 c4
        refine x_iconst (v := 0) dX10_waiting_34 ki_0 ?_
        refine x_ls (ls' := [(0, .ref 336), (1, .int v1), (3, .int v3)]) [0, 1, 3] rfl ?_
        refine jnt_X10_waiting_35 hn hG (fun x5 x6 h => ?_) h
        exact ih x5 x6 h
      · have h := h.2 c4
        refine x_iconst (v := 1) dX10_waiting_30 ki_1 ?_
        refine x_goto dX10_waiting_31 (tgt := 35) rfl ?_
        refine x_ls (ls' := [(0, .ref 336), (1, .int v1), (3, .int v3)]) [0, 1, 3] rfl ?_
        refine jnt_X10_waiting_35 hn hG (fun x7 x8 h => ?_) h
        exact ih x7 x8 h
def wp_X10_waiting (I : MI) (v1 : Int32) (Q : Int32 → Prop) : Prop :=
    (∃ N9, lp_X10_waiting_4 I v1 Q N9 0 0)
set_option maxRecDepth 20000 in
theorem mt_X10_waiting {E : Ev} {l : Launch} {n : Nat} {R : MR} (hn : 349 ≤ n) (hG : GRm R) {I : MI} {L : ML} {v1 : Int32} {Q : Int32 → Prop} (h : wp_X10_waiting I v1 Q) : MX E l rm_X10_waiting yX10_waiting cX10_waiting 4 (some .int) [.ref 336, .int v1] n I L R (Qi n R (P00 I L Q)) := by
  refine MX_of (ls := [(0, .ref 336), (1, .int v1)]) (by decide) (Nat.le_of_ble_eq_true rfl) rfl ?_
  unfold wp_X10_waiting at h
  refine x_iconst (v := 0) dX10_waiting_0 ki_0 ?_
  refine x_istore_n (ls' := [(2, .int 0), (0, .ref 336), (1, .int v1)]) dX10_waiting_1 (Nat.le_of_ble_eq_true rfl) rfl ?_
  refine x_iconst (v := 0) dX10_waiting_2 ki_0 ?_
  refine x_istore_n (ls' := [(3, .int 0), (2, .int 0), (0, .ref 336), (1, .int v1)]) dX10_waiting_3 (Nat.le_of_ble_eq_true rfl) rfl ?_
  refine x_ls (ls' := [(0, .ref 336), (1, .int v1), (2, .int 0), (3, .int 0)]) [2, 3, 1, 0] rfl ?_
  obtain ⟨N9, h⟩ := h
  exact lpt_X10_waiting_4 hn hG  N9 0 0 h
abbrev rm_X10_part : Room := { frames := 2, cells := 0, slots := 0, locals := 47 }
def wp_X10_part (I : MI) (v1 : Int32) (v2 : Int32) (Q : Int32 → Prop) : Prop :=
    (wp_X10_isPart I v1 (fun x1 => (((¬ x1 = 0 → ((v2 = 0 → (vp_in (20 + v1) 2212 ∧ Q (I 337 (ix (20 + v1))))) ∧ (¬ v2 = 0 → ((v2 = 1 → (vp_in (23 + v1) 2212 ∧ Q (I 337 (ix (23 + v1))))) ∧ (¬ v2 = 1 → ((v2 = 2 → (vp_in (26 + v1) 2212 ∧ Q (I 337 (ix (26 + v1))))) ∧ (¬ v2 = 2 → ((v2 = 3 → (vp_in (59 + v1) 2212 ∧ Q (I 337 (ix (59 + v1))))) ∧ (¬ v2 = 3 → ((v2 = 4 → (vp_in (71 + v1) 2212 ∧ Q (I 337 (ix (71 + v1))))) ∧ (¬ v2 = 4 → ((v2 = 5 → (wp_X10_callsOfPart I v1 (fun x14 => (Q x14)))) ∧ (¬ v2 = 5 → ((v2 = 6 → (wp_X10_waiting I v1 (fun x16 => (Q x16)))) ∧ (¬ v2 = 6 → ((v2 = 7 → (wp_X10_waysOf I 2 v1 (-1) (fun x18 => (Q x18)))) ∧ (¬ v2 = 7 → ((v2 = 8 → (wp_X10_waysOf I 1 v1 (-1) (fun x20 => (Q x20)))) ∧ (¬ v2 = 8 → Q (-1)))))))))))))))))))) ∧ (x1 = 0 → Q (-1))))))
set_option maxRecDepth 20000 in
theorem mt_X10_part {E : Ev} {l : Launch} {n : Nat} {R : MR} (hn : 349 ≤ n) (hG : GRm R) {I : MI} {L : ML} {v1 : Int32} {v2 : Int32} {Q : Int32 → Prop} (h : wp_X10_part I v1 v2 Q) : MX E l rm_X10_part yX10_part cX10_part 3 (some .int) [.ref 336, .int v1, .int v2] n I L R (Qi n R (P00 I L Q)) := by
  refine MX_of (ls := [(0, .ref 336), (1, .int v1), (2, .int v2)]) (by decide) (Nat.le_of_ble_eq_true rfl) rfl ?_
  unfold wp_X10_part at h
  refine x_aload_n dX10_part_0 rfl ?_
  refine x_iload_n dX10_part_1 rfl ?_
  refine x_cVi00 [.int v1] (mt_X10_isPart hn hG h) dX10_part_2 lk_RX10_59 (km rfl hn) sh_336 rfl rfl (Nat.le_of_ble_eq_true rfl) (Rf_of rfl) (fun x1 h => ?_)
  refine x_if_ne dX10_part_5 (tgt := 10) rfl ⟨fun c2 => ?_, fun c2 => ?_⟩
  · have h := h.1 c2
    refine x_iload_n dX10_part_10 rfl ?_
    rcases Classical.em (v2 = 0) with c3 | c3
    · have h := h.1 c3
      refine x_tabIn (tgt := 60) dX10_part_11 (by rw [c3]; decide) (by rw [c3]; decide) (off := 49) (by rw [c3]; rfl) rfl ?_
      refine x_aload_n dX10_part_60 rfl ?_
      refine x_getr (j := 337) dX10_part_61 fk_RX10_7 (km rfl hn) sh_336 (rt_336_1 hG) ?_
      refine x_bipush (v := 20) dX10_part_64 kb_20 ?_
      refine x_iload_n dX10_part_66 rfl ?_
      refine x_iadd dX10_part_67 ?_
      obtain ⟨b4, h⟩ := h
      refine x_iaload dX10_part_68 (km rfl hn) sh_337 b4 ?_
      exact x_ireturn dX10_part_69 ⟨_, rfl, rfl, rfl, rfl, rfl, h⟩
    · have h := h.2 c3
      rcases Classical.em (v2 = 1) with c5 | c5
      · have h := h.1 c5
        refine x_tabIn (tgt := 70) dX10_part_11 (by rw [c5]; decide) (by rw [c5]; decide) (off := 59) (by rw [c5]; rfl) rfl ?_
        refine x_aload_n dX10_part_70 rfl ?_
        refine x_getr (j := 337) dX10_part_71 fk_RX10_7 (km rfl hn) sh_336 (rt_336_1 hG) ?_
        refine x_bipush (v := 23) dX10_part_74 kb_23 ?_
        refine x_iload_n dX10_part_76 rfl ?_
        refine x_iadd dX10_part_77 ?_
        obtain ⟨b6, h⟩ := h
        refine x_iaload dX10_part_78 (km rfl hn) sh_337 b6 ?_
        exact x_ireturn dX10_part_79 ⟨_, rfl, rfl, rfl, rfl, rfl, h⟩
      · have h := h.2 c5
        rcases Classical.em (v2 = 2) with c7 | c7
        · have h := h.1 c7
          refine x_tabIn (tgt := 80) dX10_part_11 (by rw [c7]; decide) (by rw [c7]; decide) (off := 69) (by rw [c7]; rfl) rfl ?_
          refine x_aload_n dX10_part_80 rfl ?_
          refine x_getr (j := 337) dX10_part_81 fk_RX10_7 (km rfl hn) sh_336 (rt_336_1 hG) ?_
          refine x_bipush (v := 26) dX10_part_84 kb_26 ?_
          refine x_iload_n dX10_part_86 rfl ?_
          refine x_iadd dX10_part_87 ?_
          obtain ⟨b8, h⟩ := h
          refine x_iaload dX10_part_88 (km rfl hn) sh_337 b8 ?_
          exact x_ireturn dX10_part_89 ⟨_, rfl, rfl, rfl, rfl, rfl, h⟩
        · have h := h.2 c7
          rcases Classical.em (v2 = 3) with c9 | c9
          · have h := h.1 c9
            refine x_tabIn (tgt := 90) dX10_part_11 (by rw [c9]; decide) (by rw [c9]; decide) (off := 79) (by rw [c9]; rfl) rfl ?_
            refine x_aload_n dX10_part_90 rfl ?_
            refine x_getr (j := 337) dX10_part_91 fk_RX10_7 (km rfl hn) sh_336 (rt_336_1 hG) ?_
            refine x_bipush (v := 59) dX10_part_94 kb_59 ?_
            refine x_iload_n dX10_part_96 rfl ?_
            refine x_iadd dX10_part_97 ?_
            obtain ⟨b10, h⟩ := h
            refine x_iaload dX10_part_98 (km rfl hn) sh_337 b10 ?_
            exact x_ireturn dX10_part_99 ⟨_, rfl, rfl, rfl, rfl, rfl, h⟩
          · have h := h.2 c9
            rcases Classical.em (v2 = 4) with c11 | c11
            · have h := h.1 c11
              refine x_tabIn (tgt := 100) dX10_part_11 (by rw [c11]; decide) (by rw [c11]; decide) (off := 89) (by rw [c11]; rfl) rfl ?_
              refine x_aload_n dX10_part_100 rfl ?_
              refine x_getr (j := 337) dX10_part_101 fk_RX10_7 (km rfl hn) sh_336 (rt_336_1 hG) ?_
              refine x_bipush (v := 71) dX10_part_104 kb_71 ?_
              refine x_iload_n dX10_part_106 rfl ?_
              refine x_iadd dX10_part_107 ?_
              obtain ⟨b12, h⟩ := h
              refine x_iaload dX10_part_108 (km rfl hn) sh_337 b12 ?_
              exact x_ireturn dX10_part_109 ⟨_, rfl, rfl, rfl, rfl, rfl, h⟩
            · have h := h.2 c11
              rcases Classical.em (v2 = 5) with c13 | c13
              · have h := h.1 c13
                refine x_tabIn (tgt := 110) dX10_part_11 (by rw [c13]; decide) (by rw [c13]; decide) (off := 99) (by rw [c13]; rfl) rfl ?_
                refine x_aload_n dX10_part_110 rfl ?_
                refine x_iload_n dX10_part_111 rfl ?_
                refine x_cVi00 [.int v1] (mt_X10_callsOfPart hn hG h) dX10_part_112 lk_RX10_229 (km rfl hn) sh_336 rfl rfl (Nat.le_of_ble_eq_true rfl) (Rf_of rfl) (fun x14 h => ?_)
                exact x_ireturn dX10_part_115 ⟨_, rfl, rfl, rfl, rfl, rfl, h⟩
              · have h := h.2 c13
                rcases Classical.em (v2 = 6) with c15 | c15
                · have h := h.1 c15
                  refine x_tabIn (tgt := 116) dX10_part_11 (by rw [c15]; decide) (by rw [c15]; decide) (off := 105) (by rw [c15]; rfl) rfl ?_
                  refine x_aload_n dX10_part_116 rfl ?_
                  refine x_iload_n dX10_part_117 rfl ?_
                  refine x_cVi00 [.int v1] (mt_X10_waiting hn hG h) dX10_part_118 lk_RX10_232 (km rfl hn) sh_336 rfl rfl (Nat.le_of_ble_eq_true rfl) (Rf_of rfl) (fun x16 h => ?_)
                  exact x_ireturn dX10_part_121 ⟨_, rfl, rfl, rfl, rfl, rfl, h⟩
                · have h := h.2 c15
                  rcases Classical.em (v2 = 7) with c17 | c17
                  · have h := h.1 c17
                    refine x_tabIn (tgt := 122) dX10_part_11 (by rw [c17]; decide) (by rw [c17]; decide) (off := 111) (by rw [c17]; rfl) rfl ?_
                    refine x_aload_n dX10_part_122 rfl ?_
                    refine x_iconst (v := 2) dX10_part_123 ki_2 ?_
                    refine x_iload_n dX10_part_124 rfl ?_
                    refine x_iconst (v := (-1)) dX10_part_125 ki_m1 ?_
                    refine x_cVi00 [.int 2, .int v1, .int (-1)] (mt_X10_waysOf hn hG h) dX10_part_126 lk_RX10_235 (km rfl hn) sh_336 rfl rfl (Nat.le_of_ble_eq_true rfl) (Rf_of rfl) (fun x18 h => ?_)
                    exact x_ireturn dX10_part_129 ⟨_, rfl, rfl, rfl, rfl, rfl, h⟩
                  · have h := h.2 c17
                    rcases Classical.em (v2 = 8) with c19 | c19
                    · have h := h.1 c19
                      refine x_tabIn (tgt := 130) dX10_part_11 (by rw [c19]; decide) (by rw [c19]; decide) (off := 119) (by rw [c19]; rfl) rfl ?_
                      refine x_aload_n dX10_part_130 rfl ?_
                      refine x_iconst (v := 1) dX10_part_131 ki_1 ?_
                      refine x_iload_n dX10_part_132 rfl ?_
                      refine x_iconst (v := (-1)) dX10_part_133 ki_m1 ?_
                      refine x_cVi00 [.int 1, .int v1, .int (-1)] (mt_X10_waysOf hn hG h) dX10_part_134 lk_RX10_235 (km rfl hn) sh_336 rfl rfl (Nat.le_of_ble_eq_true rfl) (Rf_of rfl) (fun x20 h => ?_)
                      exact x_ireturn dX10_part_137 ⟨_, rfl, rfl, rfl, rfl, rfl, h⟩
                    · have h := h.2 c19
                      refine x_tabOut (tgt := 138) dX10_part_11 (sw_out 8 rfl (sw_9 c3 c5 c7 c9 c11 c13 c15 c17 c19)) rfl ?_
                      refine x_iconst (v := (-1)) dX10_part_138 ki_m1 ?_
                      exact x_ireturn dX10_part_139 ⟨_, rfl, rfl, rfl, rfl, rfl, h⟩
  · have h := h.2 c2
    refine x_iconst (v := (-1)) dX10_part_8 ki_m1 ?_
    exact x_ireturn dX10_part_9 ⟨_, rfl, rfl, rfl, rfl, rfl, h⟩
abbrev rm_X10_played : Room := { frames := 1, cells := 0, slots := 0, locals := 23 }
def wp_X10_played (I : MI) (v1 : Int32) (Q : Int32 → Prop) : Prop :=
    ((v1 = 0 → (vp_in 5 2212 ∧ Q (I 337 (ix 5)))) ∧ (¬ v1 = 0 → ((v1 = 1 → (vp_in 6 2212 ∧ Q (I 337 (ix 6)))) ∧ (¬ v1 = 1 → ((v1 = 2 → (vp_in 7 2212 ∧ Q (I 337 (ix 7)))) ∧ (¬ v1 = 2 → ((v1 = 3 → (vp_in 14 2212 ∧ Q (I 337 (ix 14)))) ∧ (¬ v1 = 3 → ((v1 = 4 → (vp_in 8 2212 ∧ Q (I 337 (ix 8)))) ∧ (¬ v1 = 4 → ((v1 = 5 → (wp_X10_late I (fun x12 => (Q x12)))) ∧ (¬ v1 = 5 → ((v1 = 6 → (wp_X10_mostLate I (fun x14 => (Q x14)))) ∧ (¬ v1 = 6 → ((v1 = 7 → (vp_in 11 2212 ∧ Q (I 337 (ix 11)))) ∧ (¬ v1 = 7 → ((v1 = 8 → (vp_in 12 2212 ∧ Q (I 337 (ix 12)))) ∧ (¬ v1 = 8 → ((v1 = 9 → (vp_in 16 2212 ∧ Q (I 337 (ix 16)))) ∧ (¬ v1 = 9 → ((v1 = 10 → (vp_in 17 2212 ∧ Q (I 337 (ix 17)))) ∧ (¬ v1 = 10 → Q (-1)))))))))))))))))))))))
set_option maxRecDepth 20000 in
theorem mt_X10_played {E : Ev} {l : Launch} {n : Nat} {R : MR} (hn : 349 ≤ n) (hG : GRm R) {I : MI} {L : ML} {v1 : Int32} {Q : Int32 → Prop} (h : wp_X10_played I v1 Q) : MX E l rm_X10_played yX10_played cX10_played 2 (some .int) [.ref 336, .int v1] n I L R (Qi n R (P00 I L Q)) := by
  refine MX_of (ls := [(0, .ref 336), (1, .int v1)]) (by decide) (Nat.le_of_ble_eq_true rfl) rfl ?_
  unfold wp_X10_played at h
  refine x_iload_n dX10_played_0 rfl ?_
  rcases Classical.em (v1 = 0) with c1 | c1
  · have h := h.1 c1
    refine x_tabIn (tgt := 60) dX10_played_1 (by rw [c1]; decide) (by rw [c1]; decide) (off := 59) (by rw [c1]; rfl) rfl ?_
    refine x_aload_n dX10_played_60 rfl ?_
    refine x_getr (j := 337) dX10_played_61 fk_RX10_7 (km rfl hn) sh_336 (rt_336_1 hG) ?_
    refine x_iconst (v := 5) dX10_played_64 ki_5 ?_
    obtain ⟨b2, h⟩ := h
    refine x_iaload dX10_played_65 (km rfl hn) sh_337 b2 ?_
    exact x_ireturn dX10_played_66 ⟨_, rfl, rfl, rfl, rfl, rfl, h⟩
  · have h := h.2 c1
    rcases Classical.em (v1 = 1) with c3 | c3
    · have h := h.1 c3
      refine x_tabIn (tgt := 67) dX10_played_1 (by rw [c3]; decide) (by rw [c3]; decide) (off := 66) (by rw [c3]; rfl) rfl ?_
      refine x_aload_n dX10_played_67 rfl ?_
      refine x_getr (j := 337) dX10_played_68 fk_RX10_7 (km rfl hn) sh_336 (rt_336_1 hG) ?_
      refine x_bipush (v := 6) dX10_played_71 kb_6 ?_
      obtain ⟨b4, h⟩ := h
      refine x_iaload dX10_played_73 (km rfl hn) sh_337 b4 ?_
      exact x_ireturn dX10_played_74 ⟨_, rfl, rfl, rfl, rfl, rfl, h⟩
    · have h := h.2 c3
      rcases Classical.em (v1 = 2) with c5 | c5
      · have h := h.1 c5
        refine x_tabIn (tgt := 75) dX10_played_1 (by rw [c5]; decide) (by rw [c5]; decide) (off := 74) (by rw [c5]; rfl) rfl ?_
        refine x_aload_n dX10_played_75 rfl ?_
        refine x_getr (j := 337) dX10_played_76 fk_RX10_7 (km rfl hn) sh_336 (rt_336_1 hG) ?_
        refine x_bipush (v := 7) dX10_played_79 kb_7 ?_
        obtain ⟨b6, h⟩ := h
        refine x_iaload dX10_played_81 (km rfl hn) sh_337 b6 ?_
        exact x_ireturn dX10_played_82 ⟨_, rfl, rfl, rfl, rfl, rfl, h⟩
      · have h := h.2 c5
        rcases Classical.em (v1 = 3) with c7 | c7
        · have h := h.1 c7
          refine x_tabIn (tgt := 83) dX10_played_1 (by rw [c7]; decide) (by rw [c7]; decide) (off := 82) (by rw [c7]; rfl) rfl ?_
          refine x_aload_n dX10_played_83 rfl ?_
          refine x_getr (j := 337) dX10_played_84 fk_RX10_7 (km rfl hn) sh_336 (rt_336_1 hG) ?_
          refine x_bipush (v := 14) dX10_played_87 kb_14 ?_
          obtain ⟨b8, h⟩ := h
          refine x_iaload dX10_played_89 (km rfl hn) sh_337 b8 ?_
          exact x_ireturn dX10_played_90 ⟨_, rfl, rfl, rfl, rfl, rfl, h⟩
        · have h := h.2 c7
          rcases Classical.em (v1 = 4) with c9 | c9
          · have h := h.1 c9
            refine x_tabIn (tgt := 91) dX10_played_1 (by rw [c9]; decide) (by rw [c9]; decide) (off := 90) (by rw [c9]; rfl) rfl ?_
            refine x_aload_n dX10_played_91 rfl ?_
            refine x_getr (j := 337) dX10_played_92 fk_RX10_7 (km rfl hn) sh_336 (rt_336_1 hG) ?_
            refine x_bipush (v := 8) dX10_played_95 kb_8 ?_
            obtain ⟨b10, h⟩ := h
            refine x_iaload dX10_played_97 (km rfl hn) sh_337 b10 ?_
            exact x_ireturn dX10_played_98 ⟨_, rfl, rfl, rfl, rfl, rfl, h⟩
          · have h := h.2 c9
            rcases Classical.em (v1 = 5) with c11 | c11
            · have h := h.1 c11
              refine x_tabIn (tgt := 99) dX10_played_1 (by rw [c11]; decide) (by rw [c11]; decide) (off := 98) (by rw [c11]; rfl) rfl ?_
              refine x_aload_n dX10_played_99 rfl ?_
              refine x_cVi00 [] (mt_X10_late hn hG h) dX10_played_100 lk_RX10_239 (km rfl hn) sh_336 rfl rfl (Nat.le_of_ble_eq_true rfl) (Rf_of rfl) (fun x12 h => ?_)
              exact x_ireturn dX10_played_103 ⟨_, rfl, rfl, rfl, rfl, rfl, h⟩
            · have h := h.2 c11
              rcases Classical.em (v1 = 6) with c13 | c13
              · have h := h.1 c13
                refine x_tabIn (tgt := 104) dX10_played_1 (by rw [c13]; decide) (by rw [c13]; decide) (off := 103) (by rw [c13]; rfl) rfl ?_
                refine x_aload_n dX10_played_104 rfl ?_
                refine x_cVi00 [] (mt_X10_mostLate hn hG h) dX10_played_105 lk_RX10_242 (km rfl hn) sh_336 rfl rfl (Nat.le_of_ble_eq_true rfl) (Rf_of rfl) (fun x14 h => ?_)
                exact x_ireturn dX10_played_108 ⟨_, rfl, rfl, rfl, rfl, rfl, h⟩
              · have h := h.2 c13
                rcases Classical.em (v1 = 7) with c15 | c15
                · have h := h.1 c15
                  refine x_tabIn (tgt := 109) dX10_played_1 (by rw [c15]; decide) (by rw [c15]; decide) (off := 108) (by rw [c15]; rfl) rfl ?_
                  refine x_aload_n dX10_played_109 rfl ?_
                  refine x_getr (j := 337) dX10_played_110 fk_RX10_7 (km rfl hn) sh_336 (rt_336_1 hG) ?_
                  refine x_bipush (v := 11) dX10_played_113 kb_11 ?_
                  obtain ⟨b16, h⟩ := h
                  refine x_iaload dX10_played_115 (km rfl hn) sh_337 b16 ?_
                  exact x_ireturn dX10_played_116 ⟨_, rfl, rfl, rfl, rfl, rfl, h⟩
                · have h := h.2 c15
                  rcases Classical.em (v1 = 8) with c17 | c17
                  · have h := h.1 c17
                    refine x_tabIn (tgt := 117) dX10_played_1 (by rw [c17]; decide) (by rw [c17]; decide) (off := 116) (by rw [c17]; rfl) rfl ?_
                    refine x_aload_n dX10_played_117 rfl ?_
                    refine x_getr (j := 337) dX10_played_118 fk_RX10_7 (km rfl hn) sh_336 (rt_336_1 hG) ?_
                    refine x_bipush (v := 12) dX10_played_121 kb_12 ?_
                    obtain ⟨b18, h⟩ := h
                    refine x_iaload dX10_played_123 (km rfl hn) sh_337 b18 ?_
                    exact x_ireturn dX10_played_124 ⟨_, rfl, rfl, rfl, rfl, rfl, h⟩
                  · have h := h.2 c17
                    rcases Classical.em (v1 = 9) with c19 | c19
                    · have h := h.1 c19
                      refine x_tabIn (tgt := 125) dX10_played_1 (by rw [c19]; decide) (by rw [c19]; decide) (off := 124) (by rw [c19]; rfl) rfl ?_
                      refine x_aload_n dX10_played_125 rfl ?_
                      refine x_getr (j := 337) dX10_played_126 fk_RX10_7 (km rfl hn) sh_336 (rt_336_1 hG) ?_
                      refine x_bipush (v := 16) dX10_played_129 kb_16 ?_
                      obtain ⟨b20, h⟩ := h
                      refine x_iaload dX10_played_131 (km rfl hn) sh_337 b20 ?_
                      exact x_ireturn dX10_played_132 ⟨_, rfl, rfl, rfl, rfl, rfl, h⟩
                    · have h := h.2 c19
                      rcases Classical.em (v1 = 10) with c21 | c21
                      · have h := h.1 c21
                        refine x_tabIn (tgt := 133) dX10_played_1 (by rw [c21]; decide) (by rw [c21]; decide) (off := 132) (by rw [c21]; rfl) rfl ?_
                        refine x_aload_n dX10_played_133 rfl ?_
                        refine x_getr (j := 337) dX10_played_134 fk_RX10_7 (km rfl hn) sh_336 (rt_336_1 hG) ?_
                        refine x_bipush (v := 17) dX10_played_137 kb_17 ?_
                        obtain ⟨b22, h⟩ := h
                        refine x_iaload dX10_played_139 (km rfl hn) sh_337 b22 ?_
                        exact x_ireturn dX10_played_140 ⟨_, rfl, rfl, rfl, rfl, rfl, h⟩
                      · have h := h.2 c21
                        refine x_tabOut (tgt := 141) dX10_played_1 (sw_out 10 rfl (sw_11 c1 c3 c5 c7 c9 c11 c13 c15 c17 c19 c21)) rfl ?_
                        refine x_iconst (v := (-1)) dX10_played_141 ki_m1 ?_
                        exact x_ireturn dX10_played_142 ⟨_, rfl, rfl, rfl, rfl, rfl, h⟩
abbrev rm_X10_quiet : Room := { frames := 5, cells := 0, slots := 0, locals := 118 }
def lp_X10_quiet_4 (kf33 : MI → Prop) : Nat → MI → Prop
  | 0, _ => False
  | n + 1, I =>
    (vp_in 16 2212 ∧ (((I 337 (ix 16)) ≤ 0 → kf33 I) ∧ (¬ (I 337 (ix 16)) ≤ 0 → (vp_in 5 2212 ∧ ((9999 ≤ (I 337 (ix 5)) → kf33 I) ∧ (¬ 9999 ≤ (I 337 (ix 5)) → (wp_X10_goesDay I (fun I6 => ((lp_X10_quiet_4 kf33 n I6))))))))))
set_option maxRecDepth 20000 in
theorem lpt_X10_quiet_4 {E : Ev} {l : Launch} {n : Nat} {R : MR} (hn : 349 ≤ n) (hG : GRm R) {I0 : MI} {Q : Int32 → MI → Prop} {L : ML} {kf33 : MI → Prop}
    (hK33 : ∀ (I : MI), kf33 I → X E l rm_X10_quiet yX10_quiet cX10_quiet 2 (some .int) noX (ZM E rm_X10_quiet (Qi n R (P10 I0 L Q))) 33 [(0, .ref 336)] [] n I L R 0 0) : ∀ (N : Nat) (I : MI), lp_X10_quiet_4 kf33 N I → X E l rm_X10_quiet yX10_quiet cX10_quiet 2 (some .int) noX (ZM E rm_X10_quiet (Qi n R (P10 I0 L Q))) 4 [(0, .ref 336)] [] n I L R 0 0 := by
  intro N
  induction N with
  | zero => intro I h; exact False.elim h
  | succ N ih =>
    intro I h
    unfold lp_X10_quiet_4 at h
    refine x_aload_n dX10_quiet_4 rfl ?_
    refine x_getr (j := 337) dX10_quiet_5 fk_RX10_7 (km rfl hn) sh_336 (rt_336_1 hG) ?_
    refine x_bipush (v := 16) dX10_quiet_8 kb_16 ?_
    obtain ⟨b2, h⟩ := h
    refine x_iaload dX10_quiet_10 (km rfl hn) sh_337 b2 ?_
    refine x_if_le dX10_quiet_11 (tgt := 33) rfl ⟨fun c3 => ?_, fun c3 => ?_⟩
    · have h := h.1 c3
      exact hK33 I h
    · have h := h.2 c3
      refine x_aload_n dX10_quiet_14 rfl ?_
      refine x_getr (j := 337) dX10_quiet_15 fk_RX10_7 (km rfl hn) sh_336 (rt_336_1 hG) ?_
      refine x_iconst (v := 5) dX10_quiet_18 ki_5 ?_
      obtain ⟨b4, h⟩ := h
      refine x_iaload dX10_quiet_19 (km rfl hn) sh_337 b4 ?_
      refine x_sipush (v := 9999) dX10_quiet_20 ks_9999 ?_
      refine x_icmp_ge dX10_quiet_23 (tgt := 33) rfl ⟨fun c5 => ?_, fun c5 => ?_⟩
      · have h := h.1 c5
        exact hK33 I h
      · have h := h.2 c5
        refine x_aload_n dX10_quiet_26 rfl ?_
        refine x_cVv10 [] (mt_X10_goesDay hn hG h) dX10_quiet_27 lk_RX10_208 (km rfl hn) sh_336 rfl rfl (Nat.le_of_ble_eq_true rfl) (Rf_of rfl) (fun I6 h => ?_)
        refine x_goto dX10_quiet_30 (tgt := 4) rfl ?_
        exact ih I6 h
def jn_X10_quiet_54 (I : MI) (s0 : Int32) (Q : Int32 → MI → Prop) : Prop :=
    (wp_X10_bringBack I (fun I12 => (Q s0 I12)))
set_option maxRecDepth 20000 in
theorem jnt_X10_quiet_54 {E : Ev} {l : Launch} {n : Nat} {R : MR} (hn : 349 ≤ n) (hG : GRm R) {I0 : MI} {Q : Int32 → MI → Prop} {I : MI} {L : ML} {s0 : Int32} (h : jn_X10_quiet_54 I s0 Q) : X E l rm_X10_quiet yX10_quiet cX10_quiet 2 (some .int) noX (ZM E rm_X10_quiet (Qi n R (P10 I0 L Q))) 54 [(0, .ref 336)] [.int s0] n I L R 0 0 := by
  unfold jn_X10_quiet_54 at h
  refine x_istore_n (ls' := [(1, .int s0), (0, .ref 336)]) dX10_quiet_54 (Nat.le_of_ble_eq_true rfl) rfl ?_
  refine x_aload_n dX10_quiet_55 rfl ?_
  refine x_cVv10 [] (mt_X10_bringBack hn hG h) dX10_quiet_56 lk_RX10_147 (km rfl hn) sh_336 rfl rfl (Nat.le_of_ble_eq_true rfl) (Rf_of rfl) (fun I12 h => ?_)
  refine x_iload_n dX10_quiet_59 rfl ?_
  exact x_ireturn dX10_quiet_60 ⟨_, rfl, rfl, rfl, rfl, h⟩
def jn_X10_quiet_33 (I : MI) (Q : Int32 → MI → Prop) : Prop :=
    (vp_in 16 2212 ∧ (((I 337 (ix 16)) ≤ 0 → (vp_in 5 2212 ∧ (jn_X10_quiet_54 I (I 337 (ix 5)) Q))) ∧ (¬ (I 337 (ix 16)) ≤ 0 → (jn_X10_quiet_54 I (-2) Q))))
set_option maxRecDepth 20000 in
theorem jnt_X10_quiet_33 {E : Ev} {l : Launch} {n : Nat} {R : MR} (hn : 349 ≤ n) (hG : GRm R) {I0 : MI} {Q : Int32 → MI → Prop} {I : MI} {L : ML} (h : jn_X10_quiet_33 I Q) : X E l rm_X10_quiet yX10_quiet cX10_quiet 2 (some .int) noX (ZM E rm_X10_quiet (Qi n R (P10 I0 L Q))) 33 [(0, .ref 336)] [] n I L R 0 0 := by
  unfold jn_X10_quiet_33 at h
  refine x_aload_n dX10_quiet_33 rfl ?_
  refine x_getr (j := 337) dX10_quiet_34 fk_RX10_7 (km rfl hn) sh_336 (rt_336_1 hG) ?_
  refine x_bipush (v := 16) dX10_quiet_37 kb_16 ?_
  obtain ⟨b9, h⟩ := h
  refine x_iaload dX10_quiet_39 (km rfl hn) sh_337 b9 ?_
  refine x_if_le dX10_quiet_40 (tgt := 48) rfl ⟨fun c10 => ?_, fun c10 => ?_⟩
  · have h := h.1 c10
    refine x_aload_n dX10_quiet_48 rfl ?_
    refine x_getr (j := 337) dX10_quiet_49 fk_RX10_7 (km rfl hn) sh_336 (rt_336_1 hG) ?_
    refine x_iconst (v := 5) dX10_quiet_52 ki_5 ?_
    obtain ⟨b11, h⟩ := h
    refine x_iaload dX10_quiet_53 (km rfl hn) sh_337 b11 ?_
    exact jnt_X10_quiet_54 hn hG  h
  · have h := h.2 c10
    refine x_bipush (v := (-2)) dX10_quiet_43 kb_m2 ?_
    refine x_goto dX10_quiet_45 (tgt := 54) rfl ?_
    exact jnt_X10_quiet_54 hn hG  h
def wp_X10_quiet (I : MI) (Q : Int32 → MI → Prop) : Prop :=
    (wp_X10_putAside I (fun I1 => ((∃ N7, lp_X10_quiet_4 (fun I8 => (jn_X10_quiet_33 I8 Q)) N7 I1))))
set_option maxRecDepth 20000 in
theorem mt_X10_quiet {E : Ev} {l : Launch} {n : Nat} {R : MR} (hn : 349 ≤ n) (hG : GRm R) {I : MI} {L : ML} {Q : Int32 → MI → Prop} (h : wp_X10_quiet I Q) : MX E l rm_X10_quiet yX10_quiet cX10_quiet 2 (some .int) [.ref 336] n I L R (Qi n R (P10 I L Q)) := by
  refine MX_of (ls := [(0, .ref 336)]) (by decide) (Nat.le_of_ble_eq_true rfl) rfl ?_
  unfold wp_X10_quiet at h
  refine x_aload_n dX10_quiet_0 rfl ?_
  refine x_cVv10 [] (mt_X10_putAside hn hG h) dX10_quiet_1 lk_RX10_141 (km rfl hn) sh_336 rfl rfl (Nat.le_of_ble_eq_true rfl) (Rf_of rfl) (fun I1 h => ?_)
  obtain ⟨N7, h⟩ := h
  refine lpt_X10_quiet_4 hn hG (fun I8 h => ?_) N7 I1 h
  exact jnt_X10_quiet_33 hn hG  h
abbrev rm_X10_would : Room := { frames := 6, cells := 0, slots := 0, locals := 145 }
def wp_X10_would (I : MI) (v1 : Int32) (v2 : Int32) (v3 : Int32) (Q : Int32 → MI → Prop) : Prop :=
    (wp_X10_areDays I v1 12 (fun x1 => (((x1 = 0 → Q (-1) I) ∧ (¬ x1 = 0 → (wp_X10_isIn v3 0 10 (fun x3 => (((¬ x3 = 0 → (wp_X10_putAside I (fun I5 => ((wp_X10_runs I5 v1 v2 (fun x6 I7 => ((wp_X10_played I7 v3 (fun x8 => ((wp_X10_bringBack I7 (fun I9 => (Q x8 I9))))))))))))) ∧ (x3 = 0 → Q (-1) I))))))))))
set_option maxRecDepth 20000 in
theorem mt_X10_would {E : Ev} {l : Launch} {n : Nat} {R : MR} (hn : 349 ≤ n) (hG : GRm R) {I : MI} {L : ML} {v1 : Int32} {v2 : Int32} {v3 : Int32} {Q : Int32 → MI → Prop} (h : wp_X10_would I v1 v2 v3 Q) : MX E l rm_X10_would yX10_would cX10_would 6 (some .int) [.ref 336, .int v1, .int v2, .int v3] n I L R (Qi n R (P10 I L Q)) := by
  refine MX_of (ls := [(0, .ref 336), (1, .int v1), (2, .int v2), (3, .int v3)]) (by decide) (Nat.le_of_ble_eq_true rfl) rfl ?_
  unfold wp_X10_would at h
  refine x_aload_n dX10_would_0 rfl ?_
  refine x_iload_n dX10_would_1 rfl ?_
  refine x_bipush (v := 12) dX10_would_2 kb_12 ?_
  refine x_cVi00 [.int v1, .int 12] (mt_X10_areDays hn hG h) dX10_would_4 lk_RX10_217 (km rfl hn) sh_336 rfl rfl (Nat.le_of_ble_eq_true rfl) (Rf_of rfl) (fun x1 h => ?_)
  refine x_if_eq dX10_would_7 (tgt := 20) rfl ⟨fun c2 => ?_, fun c2 => ?_⟩
  · have h := h.1 c2
    refine x_iconst (v := (-1)) dX10_would_20 ki_m1 ?_
    exact x_ireturn dX10_would_21 ⟨_, rfl, rfl, rfl, rfl, h⟩
  · have h := h.2 c2
    refine x_iload_n dX10_would_10 rfl ?_
    refine x_iconst (v := 0) dX10_would_11 ki_0 ?_
    refine x_bipush (v := 10) dX10_would_12 kb_10 ?_
    refine x_cSi00 [.int v3, .int 0, .int 10] (mt_X10_isIn hn hG h) dX10_would_14 lk_RX10_51 rfl rfl (Nat.le_of_ble_eq_true rfl) (Rf_of rfl) (fun x3 h => ?_)
    refine x_if_ne dX10_would_17 (tgt := 22) rfl ⟨fun c4 => ?_, fun c4 => ?_⟩
    · have h := h.1 c4
      refine x_aload_n dX10_would_22 rfl ?_
      refine x_cVv10 [] (mt_X10_putAside hn hG h) dX10_would_23 lk_RX10_141 (km rfl hn) sh_336 rfl rfl (Nat.le_of_ble_eq_true rfl) (Rf_of rfl) (fun I5 h => ?_)
      refine x_aload_n dX10_would_26 rfl ?_
      refine x_iload_n dX10_would_27 rfl ?_
      refine x_iload_n dX10_would_28 rfl ?_
      refine x_cVi10 [.int v1, .int v2] (mt_X10_runs hn hG h) dX10_would_29 lk_RX10_220 (km rfl hn) sh_336 rfl rfl (Nat.le_of_ble_eq_true rfl) (Rf_of rfl) (fun x6 I7 h => ?_)
      refine x_istore (ls' := [(4, .int x6), (0, .ref 336), (1, .int v1), (2, .int v2), (3, .int v3)]) dX10_would_32 (Nat.le_of_ble_eq_true rfl) rfl ?_
      refine x_aload_n dX10_would_34 rfl ?_
      refine x_iload_n dX10_would_35 rfl ?_
      refine x_cVi00 [.int v3] (mt_X10_played hn hG h) dX10_would_36 lk_RX10_287 (km rfl hn) sh_336 rfl rfl (Nat.le_of_ble_eq_true rfl) (Rf_of rfl) (fun x8 h => ?_)
      refine x_istore (ls' := [(5, .int x8), (4, .int x6), (0, .ref 336), (1, .int v1), (2, .int v2), (3, .int v3)]) dX10_would_39 (Nat.le_of_ble_eq_true rfl) rfl ?_
      refine x_aload_n dX10_would_41 rfl ?_
      refine x_cVv10 [] (mt_X10_bringBack hn hG h) dX10_would_42 lk_RX10_147 (km rfl hn) sh_336 rfl rfl (Nat.le_of_ble_eq_true rfl) (Rf_of rfl) (fun I9 h => ?_)
      refine x_iload dX10_would_45 rfl ?_
      exact x_ireturn dX10_would_47 ⟨_, rfl, rfl, rfl, rfl, h⟩
    · have h := h.2 c4
      refine x_iconst (v := (-1)) dX10_would_20 ki_m1 ?_
      exact x_ireturn dX10_would_21 ⟨_, rfl, rfl, rfl, rfl, h⟩
abbrev rm_X10_spared : Room := { frames := 7, cells := 0, slots := 0, locals := 170 }
def wp_X10_spared (I : MI) (v1 : Int32) (v2 : Int32) (v3 : Int32) (v4 : Int32) (Q : Int32 → MI → Prop) : Prop :=
    (wp_X10_areDays I v1 12 (fun x1 => (((x1 = 0 → Q (-100000) I) ∧ (¬ x1 = 0 → (wp_X10_isCell I v3 v4 (fun x3 => (((¬ x3 = 0 → (wp_X10_would I v1 v2 5 (fun x5 I6 => ((wp_X10_putAside I6 (fun I7 => ((wp_X10_cellOf v3 v4 (fun x8 => ((vp_in (50 + x8) 2212 ∧ (vp_in (50 + x8) 2212 ∧ (∀ I11, I11 = u2 I7 337 (ix (50 + x8)) ((I7 337 (ix (50 + x8))) + 1) → (wp_X10_comes I11 v3 v4 (fun I12 => ((wp_X10_runs I12 v1 v2 (fun x13 I14 => ((wp_X10_late I14 (fun x15 => ((wp_X10_bringBack I14 (fun I16 => (Q (x5 - x15) I16))))))))))))))))))))))))) ∧ (x3 = 0 → Q (-100000) I))))))))))
set_option maxRecDepth 20000 in
theorem mt_X10_spared {E : Ev} {l : Launch} {n : Nat} {R : MR} (hn : 349 ≤ n) (hG : GRm R) {I : MI} {L : ML} {v1 : Int32} {v2 : Int32} {v3 : Int32} {v4 : Int32} {Q : Int32 → MI → Prop} (h : wp_X10_spared I v1 v2 v3 v4 Q) : MX E l rm_X10_spared yX10_spared cX10_spared 8 (some .int) [.ref 336, .int v1, .int v2, .int v3, .int v4] n I L R (Qi n R (P10 I L Q)) := by
  refine MX_of (ls := [(0, .ref 336), (1, .int v1), (2, .int v2), (3, .int v3), (4, .int v4)]) (by decide) (Nat.le_of_ble_eq_true rfl) rfl ?_
  unfold wp_X10_spared at h
  refine x_aload_n dX10_spared_0 rfl ?_
  refine x_iload_n dX10_spared_1 rfl ?_
  refine x_bipush (v := 12) dX10_spared_2 kb_12 ?_
  refine x_cVi00 [.int v1, .int 12] (mt_X10_areDays hn hG h) dX10_spared_4 lk_RX10_217 (km rfl hn) sh_336 rfl rfl (Nat.le_of_ble_eq_true rfl) (Rf_of rfl) (fun x1 h => ?_)
  refine x_if_eq dX10_spared_7 (tgt := 20) rfl ⟨fun c2 => ?_, fun c2 => ?_⟩
  · have h := h.1 c2
    refine x_ldcw (v := -100000) dX10_spared_20 kc_RX10_290 ?_
    exact x_ireturn dX10_spared_23 ⟨_, rfl, rfl, rfl, rfl, h⟩
  · have h := h.2 c2
    refine x_aload_n dX10_spared_10 rfl ?_
    refine x_iload_n dX10_spared_11 rfl ?_
    refine x_iload dX10_spared_12 rfl ?_
    refine x_cVi00 [.int v3, .int v4] (mt_X10_isCell hn hG h) dX10_spared_14 lk_RX10_211 (km rfl hn) sh_336 rfl rfl (Nat.le_of_ble_eq_true rfl) (Rf_of rfl) (fun x3 h => ?_)
    refine x_if_ne dX10_spared_17 (tgt := 24) rfl ⟨fun c4 => ?_, fun c4 => ?_⟩
    · have h := h.1 c4
      refine x_aload_n dX10_spared_24 rfl ?_
      refine x_iload_n dX10_spared_25 rfl ?_
      refine x_iload_n dX10_spared_26 rfl ?_
      refine x_iconst (v := 5) dX10_spared_27 ki_5 ?_
      refine x_cVi10 [.int v1, .int v2, .int 5] (mt_X10_would hn hG h) dX10_spared_28 lk_RX10_291 (km rfl hn) sh_336 rfl rfl (Nat.le_of_ble_eq_true rfl) (Rf_of rfl) (fun x5 I6 h => ?_)
      refine x_istore (ls' := [(5, .int x5), (0, .ref 336), (1, .int v1), (2, .int v2), (3, .int v3), (4, .int v4)]) dX10_spared_31 (Nat.le_of_ble_eq_true rfl) rfl ?_
      refine x_aload_n dX10_spared_33 rfl ?_
      refine x_cVv10 [] (mt_X10_putAside hn hG h) dX10_spared_34 lk_RX10_141 (km rfl hn) sh_336 rfl rfl (Nat.le_of_ble_eq_true rfl) (Rf_of rfl) (fun I7 h => ?_)
      refine x_aload_n dX10_spared_37 rfl ?_
      refine x_getr (j := 337) dX10_spared_38 fk_RX10_7 (km rfl hn) sh_336 (rt_336_1 hG) ?_
      refine x_bipush (v := 50) dX10_spared_41 kb_50 ?_
      refine x_iload_n dX10_spared_43 rfl ?_
      refine x_iload dX10_spared_44 rfl ?_
      refine x_cSi00 [.int v3, .int v4] (mt_X10_cellOf hn hG h) dX10_spared_46 lk_RX10_104 rfl rfl (Nat.le_of_ble_eq_true rfl) (Rf_of rfl) (fun x8 h => ?_)
      refine x_iadd dX10_spared_49 ?_
      refine x_dup2 dX10_spared_50 rfl rfl ?_
      obtain ⟨b9, h⟩ := h
      refine x_iaload dX10_spared_51 (km rfl hn) sh_337 b9 ?_
      refine x_iconst (v := 1) dX10_spared_52 ki_1 ?_
      refine x_iadd dX10_spared_53 ?_
      obtain ⟨b10, h⟩ := h
      refine x_iastore dX10_spared_54 (km rfl hn) sh_337 b10 (fun I11 eI11 => ?_)
      have h := h I11 eI11
      refine x_aload_n dX10_spared_55 rfl ?_
      refine x_iload_n dX10_spared_56 rfl ?_
      refine x_iload dX10_spared_57 rfl ?_
      refine x_cVv10 [.int v3, .int v4] (mt_X10_comes hn hG h) dX10_spared_59 lk_RX10_181 (km rfl hn) sh_336 rfl rfl (Nat.le_of_ble_eq_true rfl) (Rf_of rfl) (fun I12 h => ?_)
      refine x_aload_n dX10_spared_62 rfl ?_
      refine x_iload_n dX10_spared_63 rfl ?_
      refine x_iload_n dX10_spared_64 rfl ?_
      refine x_cVi10 [.int v1, .int v2] (mt_X10_runs hn hG h) dX10_spared_65 lk_RX10_220 (km rfl hn) sh_336 rfl rfl (Nat.le_of_ble_eq_true rfl) (Rf_of rfl) (fun x13 I14 h => ?_)
      refine x_istore (ls' := [(6, .int x13), (5, .int x5), (0, .ref 336), (1, .int v1), (2, .int v2), (3, .int v3), (4, .int v4)]) dX10_spared_68 (Nat.le_of_ble_eq_true rfl) rfl ?_
      refine x_iload dX10_spared_70 rfl ?_
      refine x_aload_n dX10_spared_72 rfl ?_
      refine x_cVi00 [] (mt_X10_late hn hG h) dX10_spared_73 lk_RX10_239 (km rfl hn) sh_336 rfl rfl (Nat.le_of_ble_eq_true rfl) (Rf_of rfl) (fun x15 h => ?_)
      refine x_isub dX10_spared_76 ?_
      refine x_istore (ls' := [(7, .int (x5 - x15)), (6, .int x13), (5, .int x5), (0, .ref 336), (1, .int v1), (2, .int v2), (3, .int v3), (4, .int v4)]) dX10_spared_77 (Nat.le_of_ble_eq_true rfl) rfl ?_
      refine x_aload_n dX10_spared_79 rfl ?_
      refine x_cVv10 [] (mt_X10_bringBack hn hG h) dX10_spared_80 lk_RX10_147 (km rfl hn) sh_336 rfl rfl (Nat.le_of_ble_eq_true rfl) (Rf_of rfl) (fun I16 h => ?_)
      refine x_iload dX10_spared_83 rfl ?_
      exact x_ireturn dX10_spared_85 ⟨_, rfl, rfl, rfl, rfl, h⟩
    · have h := h.2 c4
      refine x_ldcw (v := -100000) dX10_spared_20 kc_RX10_290 ?_
      exact x_ireturn dX10_spared_23 ⟨_, rfl, rfl, rfl, rfl, h⟩
abbrev rm_X10_spells : Room := { frames := 0, cells := 0, slots := 0, locals := 0 }
def lp_X10_spells_2 (v1 : Int64) (kf21 : Int64 → Prop) : Nat → Int64 → Prop
  | 0, _ => False
  | n + 1, v3 =>
    ((0 < (lg_cmp (27 * v3) v1) → kf21 v3) ∧ (¬ 0 < (lg_cmp (27 * v3) v1) → (lp_X10_spells_2 v1 kf21 n (v3 * 27))))
set_option maxRecDepth 20000 in
theorem lpt_X10_spells_2 {E : Ev} {l : Launch} {n : Nat} {R : MR} (hn : 349 ≤ n) (hG : GRm R) {I0 : MI} {Q : MI → Prop} {I : MI} {v1 : Int64} {L : ML} {kf21 : Int64 → Prop}
    (hK21 : ∀ (v3 : Int64), kf21 v3 → X E l rm_X10_spells yX10_spells cX10_spells 7 none noX (ZM E rm_X10_spells (Qv n R (V10 I0 L Q))) 21 [(0, .ref 336), (1, .long v1), (3, .long v3)] [] n I L R 0 0) : ∀ (N : Nat) (v3 : Int64), lp_X10_spells_2 v1 kf21 N v3 → X E l rm_X10_spells yX10_spells cX10_spells 7 none noX (ZM E rm_X10_spells (Qv n R (V10 I0 L Q))) 2 [(0, .ref 336), (1, .long v1), (3, .long v3)] [] n I L R 0 0 := by
  intro N
  induction N with
  | zero => intro v3 h; exact False.elim h
  | succ N ih =>
    intro v3 h
    unfold lp_X10_spells_2 at h
    refine x_ldc2 (v := 27) dX10_spells_2 kc_RX10_93 ?_
    refine x_lload_n dX10_spells_5 rfl ?_
    refine x_lmul dX10_spells_6 ?_
    refine x_lload_n dX10_spells_7 rfl ?_
    refine x_lcmp dX10_spells_8 ?_
    refine x_if_gt dX10_spells_9 (tgt := 21) rfl ⟨fun c1 => ?_, fun c1 => ?_⟩
    · have h := h.1 c1
      exact hK21 v3 h
    · have h := h.2 c1
      refine x_lload_n dX10_spells_12 rfl ?_
      refine x_ldc2 (v := 27) dX10_spells_13 kc_RX10_93 ?_
      refine x_lmul dX10_spells_16 ?_
      refine x_lstore_n (ls' := [(3, .long (v3 * 27)), (0, .ref 336), (1, .long v1)]) dX10_spells_17 (Nat.le_of_ble_eq_true rfl) rfl ?_
      refine x_goto dX10_spells_18 (tgt := 2) rfl ?_
      refine x_ls (ls' := [(0, .ref 336), (1, .long v1), (3, .long (v3 * 27))]) [1, 2, 0] rfl ?_
      exact ih (v3 * 27) h
def lp_X10_spells_24 (v1 : Int64) (Q : MI → Prop) : Nat → Int64 → MI → Prop
  | 0, _, _ => False
  | n + 1, v5, I =>
    (((lg_cmp v5 0) ≤ 0 → Q I) ∧ (¬ (lg_cmp v5 0) ≤ 0 → (¬ v5 = 0 ∧ (vp_in (I 336 23) 500 ∧ (∀ I7, I7 = u2 I 348 (ix (I 336 23)) ((((v1 / v5) - (v1 / v5) / 27 * 27).toInt32) + 96) → (∀ I8, I8 = u2 I7 336 23 ((I7 336 23) + 1) → (lp_X10_spells_24 v1 Q n (v5 / 27) I8)))))))
set_option maxRecDepth 20000 in
theorem lpt_X10_spells_24 {E : Ev} {l : Launch} {n : Nat} {R : MR} (hn : 349 ≤ n) (hG : GRm R) {I0 : MI} {Q : MI → Prop} {v1 : Int64} {L : ML} : ∀ (N : Nat) (v5 : Int64) (I : MI), lp_X10_spells_24 v1 Q N v5 I → X E l rm_X10_spells yX10_spells cX10_spells 7 none noX (ZM E rm_X10_spells (Qv n R (V10 I0 L Q))) 24 [(0, .ref 336), (1, .long v1), (5, .long v5)] [] n I L R 0 0 := by
  intro N
  induction N with
  | zero => intro v5 I h; exact False.elim h
  | succ N ih =>
    intro v5 I h
    unfold lp_X10_spells_24 at h
    refine x_lload dX10_spells_24 rfl ?_
    refine x_lconst (v := 0) dX10_spells_26 rfl ?_
    refine x_lcmp dX10_spells_27 ?_
    refine x_if_le dX10_spells_28 (tgt := 73) rfl ⟨fun c4 => ?_, fun c4 => ?_⟩
    · have h := h.1 c4
      exact x_return dX10_spells_73 ⟨rfl, rfl, rfl, rfl, h⟩
    · have h := h.2 c4
      refine x_aload_n dX10_spells_31 rfl ?_
      refine x_getr (j := 348) dX10_spells_32 fk_RX10_44 (km rfl hn) sh_336 (rt_336_22 hG) ?_
      refine x_aload_n dX10_spells_35 rfl ?_
      refine x_geti dX10_spells_36 fk_RX10_297 (km rfl hn) sh_336 ?_
      refine x_lload_n dX10_spells_39 rfl ?_
      refine x_lload dX10_spells_40 rfl ?_
      obtain ⟨b5, h⟩ := h
      refine x_ldiv dX10_spells_42 b5 ?_
      refine x_ldc2 (v := 27) dX10_spells_43 kc_RX10_93 ?_
      refine x_lrem dX10_spells_46 (by decide) ?_
      refine x_l2i dX10_spells_47 ?_
      refine x_bipush (v := 96) dX10_spells_48 kb_96 ?_
      refine x_iadd dX10_spells_50 ?_
      obtain ⟨b6, h⟩ := h
      refine x_iastore dX10_spells_51 (km rfl hn) sh_348 b6 (fun I7 eI7 => ?_)
      have h := h I7 eI7
      refine x_aload_n dX10_spells_52 rfl ?_
      refine x_dup dX10_spells_53 rfl ?_
      refine x_geti dX10_spells_54 fk_RX10_297 (km rfl hn) sh_336 ?_
      refine x_iconst (v := 1) dX10_spells_57 ki_1 ?_
      refine x_iadd dX10_spells_58 ?_
      refine x_puti dX10_spells_59 fk_RX10_297 fw_8_23 (vp_nar_int _) rfl (km rfl hn) sh_336 (fun I8 eI8 => ?_)
      have h := h I8 eI8
      refine x_lload dX10_spells_62 rfl ?_
      refine x_ldc2 (v := 27) dX10_spells_64 kc_RX10_93 ?_
      refine x_ldiv dX10_spells_67 (by decide) ?_
      refine x_lstore (ls' := [(5, .long (v5 / 27)), (0, .ref 336), (1, .long v1)]) dX10_spells_68 (Nat.le_of_ble_eq_true rfl) rfl ?_
      refine x_goto dX10_spells_70 (tgt := 24) rfl ?_
      refine x_ls (ls' := [(0, .ref 336), (1, .long v1), (5, .long (v5 / 27))]) [1, 2, 0] rfl ?_
      exact ih (v5 / 27) I8 h
def wp_X10_spells (I : MI) (v1 : Int64) (Q : MI → Prop) : Prop :=
    (∃ N2, lp_X10_spells_2 v1 (fun x3 => (∃ N9, lp_X10_spells_24 v1 Q N9 x3 I)) N2 1)
set_option maxRecDepth 20000 in
theorem mt_X10_spells {E : Ev} {l : Launch} {n : Nat} {R : MR} (hn : 349 ≤ n) (hG : GRm R) {I : MI} {L : ML} {v1 : Int64} {Q : MI → Prop} (h : wp_X10_spells I v1 Q) : MX E l rm_X10_spells yX10_spells cX10_spells 7 none [.ref 336, .long v1] n I L R (Qv n R (V10 I L Q)) := by
  refine MX_of (ls := [(0, .ref 336), (1, .long v1)]) (by decide) (Nat.le_of_ble_eq_true rfl) rfl ?_
  unfold wp_X10_spells at h
  refine x_lconst (v := 1) dX10_spells_0 rfl ?_
  refine x_lstore_n (ls' := [(3, .long 1), (0, .ref 336), (1, .long v1)]) dX10_spells_1 (Nat.le_of_ble_eq_true rfl) rfl ?_
  refine x_ls (ls' := [(0, .ref 336), (1, .long v1), (3, .long 1)]) [1, 2, 0] rfl ?_
  obtain ⟨N2, h⟩ := h
  refine lpt_X10_spells_2 hn hG (fun x3 h => ?_) N2 1 h
  refine x_lload_n dX10_spells_21 rfl ?_
  refine x_lstore (ls' := [(5, .long x3), (0, .ref 336), (1, .long v1), (3, .long x3)]) dX10_spells_22 (Nat.le_of_ble_eq_true rfl) rfl ?_
  refine x_ls (ls' := [(0, .ref 336), (1, .long v1), (5, .long x3)]) [1, 2, 0] rfl ?_
  obtain ⟨N9, h⟩ := h
  exact lpt_X10_spells_24 hn hG  N9 x3 I h
abbrev rm_X10_spellsNumber : Room := { frames := 0, cells := 0, slots := 0, locals := 0 }
def jn_X10_spellsNumber_53 (I : MI) (v1 : Int32) (Q : MI → Prop) : Prop :=
    (vp_in (I 336 23) 500 ∧ (∀ I6, I6 = u2 I 348 (ix (I 336 23)) (48 + (v1 - v1 / 10 * 10)) → (∀ I7, I7 = u2 I6 336 23 ((I6 336 23) + 1) → Q I7)))
set_option maxRecDepth 20000 in
theorem jnt_X10_spellsNumber_53 {E : Ev} {l : Launch} {n : Nat} {R : MR} (hn : 349 ≤ n) (hG : GRm R) {I0 : MI} {Q : MI → Prop} {I : MI} {L : ML} {v1 : Int32} (h : jn_X10_spellsNumber_53 I v1 Q) : X E l rm_X10_spellsNumber yX10_spellsNumber cX10_spellsNumber 2 none noX (ZM E rm_X10_spellsNumber (Qv n R (V10 I0 L Q))) 53 [(0, .ref 336), (1, .int v1)] [] n I L R 0 0 := by
  unfold jn_X10_spellsNumber_53 at h
  refine x_aload_n dX10_spellsNumber_53 rfl ?_
  refine x_getr (j := 348) dX10_spellsNumber_54 fk_RX10_44 (km rfl hn) sh_336 (rt_336_22 hG) ?_
  refine x_aload_n dX10_spellsNumber_57 rfl ?_
  refine x_geti dX10_spellsNumber_58 fk_RX10_297 (km rfl hn) sh_336 ?_
  refine x_bipush (v := 48) dX10_spellsNumber_61 kb_48 ?_
  refine x_iload_n dX10_spellsNumber_63 rfl ?_
  refine x_bipush (v := 10) dX10_spellsNumber_64 kb_10 ?_
  refine x_irem dX10_spellsNumber_66 (by decide) ?_
  refine x_iadd dX10_spellsNumber_67 ?_
  obtain ⟨b5, h⟩ := h
  refine x_iastore dX10_spellsNumber_68 (km rfl hn) sh_348 b5 (fun I6 eI6 => ?_)
  have h := h I6 eI6
  refine x_aload_n dX10_spellsNumber_69 rfl ?_
  refine x_dup dX10_spellsNumber_70 rfl ?_
  refine x_geti dX10_spellsNumber_71 fk_RX10_297 (km rfl hn) sh_336 ?_
  refine x_iconst (v := 1) dX10_spellsNumber_74 ki_1 ?_
  refine x_iadd dX10_spellsNumber_75 ?_
  refine x_puti dX10_spellsNumber_76 fk_RX10_297 fw_8_23 (vp_nar_int _) rfl (km rfl hn) sh_336 (fun I7 eI7 => ?_)
  have h := h I7 eI7
  exact x_return dX10_spellsNumber_79 ⟨rfl, rfl, rfl, rfl, h⟩
def wp_X10_spellsNumber (I : MI) (v1 : Int32) (Q : MI → Prop) : Prop :=
    (vp_in (I 336 23) 500 ∧ (∀ I2, I2 = u2 I 348 (ix (I 336 23)) 32 → (∀ I3, I3 = u2 I2 336 23 ((I2 336 23) + 1) → ((v1 ≤ 9 → (jn_X10_spellsNumber_53 I3 v1 Q)) ∧ (¬ v1 ≤ 9 → (vp_in (I3 336 23) 500 ∧ (∀ I9, I9 = u2 I3 348 (ix (I3 336 23)) (48 + (v1 / 10)) → (∀ I10, I10 = u2 I9 336 23 ((I9 336 23) + 1) → (jn_X10_spellsNumber_53 I10 v1 Q)))))))))
set_option maxRecDepth 20000 in
theorem mt_X10_spellsNumber {E : Ev} {l : Launch} {n : Nat} {R : MR} (hn : 349 ≤ n) (hG : GRm R) {I : MI} {L : ML} {v1 : Int32} {Q : MI → Prop} (h : wp_X10_spellsNumber I v1 Q) : MX E l rm_X10_spellsNumber yX10_spellsNumber cX10_spellsNumber 2 none [.ref 336, .int v1] n I L R (Qv n R (V10 I L Q)) := by
  refine MX_of (ls := [(0, .ref 336), (1, .int v1)]) (by decide) (Nat.le_of_ble_eq_true rfl) rfl ?_
  unfold wp_X10_spellsNumber at h
  refine x_aload_n dX10_spellsNumber_0 rfl ?_
  refine x_getr (j := 348) dX10_spellsNumber_1 fk_RX10_44 (km rfl hn) sh_336 (rt_336_22 hG) ?_
  refine x_aload_n dX10_spellsNumber_4 rfl ?_
  refine x_geti dX10_spellsNumber_5 fk_RX10_297 (km rfl hn) sh_336 ?_
  refine x_bipush (v := 32) dX10_spellsNumber_8 kb_32 ?_
  obtain ⟨b1, h⟩ := h
  refine x_iastore dX10_spellsNumber_10 (km rfl hn) sh_348 b1 (fun I2 eI2 => ?_)
  have h := h I2 eI2
  refine x_aload_n dX10_spellsNumber_11 rfl ?_
  refine x_dup dX10_spellsNumber_12 rfl ?_
  refine x_geti dX10_spellsNumber_13 fk_RX10_297 (km rfl hn) sh_336 ?_
  refine x_iconst (v := 1) dX10_spellsNumber_16 ki_1 ?_
  refine x_iadd dX10_spellsNumber_17 ?_
  refine x_puti dX10_spellsNumber_18 fk_RX10_297 fw_8_23 (vp_nar_int _) rfl (km rfl hn) sh_336 (fun I3 eI3 => ?_)
  have h := h I3 eI3
  refine x_iload_n dX10_spellsNumber_21 rfl ?_
  refine x_bipush (v := 9) dX10_spellsNumber_22 kb_9 ?_
  refine x_icmp_le dX10_spellsNumber_24 (tgt := 53) rfl ⟨fun c4 => ?_, fun c4 => ?_⟩
  · have h := h.1 c4
    exact jnt_X10_spellsNumber_53 hn hG  h
  · have h := h.2 c4
    refine x_aload_n dX10_spellsNumber_27 rfl ?_
    refine x_getr (j := 348) dX10_spellsNumber_28 fk_RX10_44 (km rfl hn) sh_336 (rt_336_22 hG) ?_
    refine x_aload_n dX10_spellsNumber_31 rfl ?_
    refine x_geti dX10_spellsNumber_32 fk_RX10_297 (km rfl hn) sh_336 ?_
    refine x_bipush (v := 48) dX10_spellsNumber_35 kb_48 ?_
    refine x_iload_n dX10_spellsNumber_37 rfl ?_
    refine x_bipush (v := 10) dX10_spellsNumber_38 kb_10 ?_
    refine x_idiv dX10_spellsNumber_40 (by decide) ?_
    refine x_iadd dX10_spellsNumber_41 ?_
    obtain ⟨b8, h⟩ := h
    refine x_iastore dX10_spellsNumber_42 (km rfl hn) sh_348 b8 (fun I9 eI9 => ?_)
    have h := h I9 eI9
    refine x_aload_n dX10_spellsNumber_43 rfl ?_
    refine x_dup dX10_spellsNumber_44 rfl ?_
    refine x_geti dX10_spellsNumber_45 fk_RX10_297 (km rfl hn) sh_336 ?_
    refine x_iconst (v := 1) dX10_spellsNumber_48 ki_1 ?_
    refine x_iadd dX10_spellsNumber_49 ?_
    refine x_puti dX10_spellsNumber_50 fk_RX10_297 fw_8_23 (vp_nar_int _) rfl (km rfl hn) sh_336 (fun I10 eI10 => ?_)
    have h := h I10 eI10
    exact jnt_X10_spellsNumber_53 hn hG  h
abbrev rm_X10_spellsLast : Room := { frames := 1, cells := 0, slots := 0, locals := 21 }
def wp_X10_spellsLast (I : MI) (v1 : Int32) (Q : MI → Prop) : Prop :=
    (wp_X10_spellsNumber I v1 (fun I1 => ((vp_in (I1 336 23) 500 ∧ (∀ I3, I3 = u2 I1 348 (ix (I1 336 23)) 59 → (∀ I4, I4 = u2 I3 336 23 ((I3 336 23) + 1) → Q I4))))))
set_option maxRecDepth 20000 in
theorem mt_X10_spellsLast {E : Ev} {l : Launch} {n : Nat} {R : MR} (hn : 349 ≤ n) (hG : GRm R) {I : MI} {L : ML} {v1 : Int32} {Q : MI → Prop} (h : wp_X10_spellsLast I v1 Q) : MX E l rm_X10_spellsLast yX10_spellsLast cX10_spellsLast 2 none [.ref 336, .int v1] n I L R (Qv n R (V10 I L Q)) := by
  refine MX_of (ls := [(0, .ref 336), (1, .int v1)]) (by decide) (Nat.le_of_ble_eq_true rfl) rfl ?_
  unfold wp_X10_spellsLast at h
  refine x_aload_n dX10_spellsLast_0 rfl ?_
  refine x_iload_n dX10_spellsLast_1 rfl ?_
  refine x_cVv10 [.int v1] (mt_X10_spellsNumber hn hG h) dX10_spellsLast_2 lk_RX10_300 (km rfl hn) sh_336 rfl rfl (Nat.le_of_ble_eq_true rfl) (Rf_of rfl) (fun I1 h => ?_)
  refine x_aload_n dX10_spellsLast_5 rfl ?_
  refine x_getr (j := 348) dX10_spellsLast_6 fk_RX10_44 (km rfl hn) sh_336 (rt_336_22 hG) ?_
  refine x_aload_n dX10_spellsLast_9 rfl ?_
  refine x_geti dX10_spellsLast_10 fk_RX10_297 (km rfl hn) sh_336 ?_
  refine x_bipush (v := 59) dX10_spellsLast_13 kb_59 ?_
  obtain ⟨b2, h⟩ := h
  refine x_iastore dX10_spellsLast_15 (km rfl hn) sh_348 b2 (fun I3 eI3 => ?_)
  have h := h I3 eI3
  refine x_aload_n dX10_spellsLast_16 rfl ?_
  refine x_dup dX10_spellsLast_17 rfl ?_
  refine x_geti dX10_spellsLast_18 fk_RX10_297 (km rfl hn) sh_336 ?_
  refine x_iconst (v := 1) dX10_spellsLast_21 ki_1 ?_
  refine x_iadd dX10_spellsLast_22 ?_
  refine x_puti dX10_spellsLast_23 fk_RX10_297 fw_8_23 (vp_nar_int _) rfl (km rfl hn) sh_336 (fun I4 eI4 => ?_)
  have h := h I4 eI4
  exact x_return dX10_spellsLast_26 ⟨rfl, rfl, rfl, rfl, h⟩
abbrev rm_X10_spellsCell : Room := { frames := 2, cells := 0, slots := 0, locals := 42 }
def wp_X10_spellsCell (I : MI) (v1 : Int32) (v2 : Int32) (Q : MI → Prop) : Prop :=
    (wp_X10_cellOf v1 v2 (fun x1 => ((vp_in (32 + x1) 2212 ∧ (vp_in (41 + x1) 2212 ∧ (vp_in (50 + x1) 2212 ∧ ((¬ (((I 337 (ix (32 + x1))) + (I 337 (ix (41 + x1)))) + (I 337 (ix (50 + x1)))) = 0 → (wp_X10_spells I 63030 (fun I6 => ((wp_X10_spellsNumber I6 v1 (fun I7 => ((wp_X10_spellsNumber I7 v2 (fun I8 => ((vp_in (32 + x1) 2212 ∧ (wp_X10_spellsNumber I8 (I8 337 (ix (32 + x1))) (fun I10 => ((vp_in (41 + x1) 2212 ∧ (wp_X10_spellsNumber I10 (I10 337 (ix (41 + x1))) (fun I12 => ((vp_in (50 + x1) 2212 ∧ (wp_X10_spellsLast I12 (I12 337 (ix (50 + x1))) (fun I14 => (Q I14)))))))))))))))))))))) ∧ ((((I 337 (ix (32 + x1))) + (I 337 (ix (41 + x1)))) + (I 337 (ix (50 + x1)))) = 0 → Q I))))))))
set_option maxRecDepth 20000 in
theorem mt_X10_spellsCell {E : Ev} {l : Launch} {n : Nat} {R : MR} (hn : 349 ≤ n) (hG : GRm R) {I : MI} {L : ML} {v1 : Int32} {v2 : Int32} {Q : MI → Prop} (h : wp_X10_spellsCell I v1 v2 Q) : MX E l rm_X10_spellsCell yX10_spellsCell cX10_spellsCell 4 none [.ref 336, .int v1, .int v2] n I L R (Qv n R (V10 I L Q)) := by
  refine MX_of (ls := [(0, .ref 336), (1, .int v1), (2, .int v2)]) (by decide) (Nat.le_of_ble_eq_true rfl) rfl ?_
  unfold wp_X10_spellsCell at h
  refine x_iload_n dX10_spellsCell_0 rfl ?_
  refine x_iload_n dX10_spellsCell_1 rfl ?_
  refine x_cSi00 [.int v1, .int v2] (mt_X10_cellOf hn hG h) dX10_spellsCell_2 lk_RX10_104 rfl rfl (Nat.le_of_ble_eq_true rfl) (Rf_of rfl) (fun x1 h => ?_)
  refine x_istore_n (ls' := [(3, .int x1), (0, .ref 336), (1, .int v1), (2, .int v2)]) dX10_spellsCell_5 (Nat.le_of_ble_eq_true rfl) rfl ?_
  refine x_aload_n dX10_spellsCell_6 rfl ?_
  refine x_getr (j := 337) dX10_spellsCell_7 fk_RX10_7 (km rfl hn) sh_336 (rt_336_1 hG) ?_
  refine x_bipush (v := 32) dX10_spellsCell_10 kb_32 ?_
  refine x_iload_n dX10_spellsCell_12 rfl ?_
  refine x_iadd dX10_spellsCell_13 ?_
  obtain ⟨b2, h⟩ := h
  refine x_iaload dX10_spellsCell_14 (km rfl hn) sh_337 b2 ?_
  refine x_aload_n dX10_spellsCell_15 rfl ?_
  refine x_getr (j := 337) dX10_spellsCell_16 fk_RX10_7 (km rfl hn) sh_336 (rt_336_1 hG) ?_
  refine x_bipush (v := 41) dX10_spellsCell_19 kb_41 ?_
  refine x_iload_n dX10_spellsCell_21 rfl ?_
  refine x_iadd dX10_spellsCell_22 ?_
  obtain ⟨b3, h⟩ := h
  refine x_iaload dX10_spellsCell_23 (km rfl hn) sh_337 b3 ?_
  refine x_iadd dX10_spellsCell_24 ?_
  refine x_aload_n dX10_spellsCell_25 rfl ?_
  refine x_getr (j := 337) dX10_spellsCell_26 fk_RX10_7 (km rfl hn) sh_336 (rt_336_1 hG) ?_
  refine x_bipush (v := 50) dX10_spellsCell_29 kb_50 ?_
  refine x_iload_n dX10_spellsCell_31 rfl ?_
  refine x_iadd dX10_spellsCell_32 ?_
  obtain ⟨b4, h⟩ := h
  refine x_iaload dX10_spellsCell_33 (km rfl hn) sh_337 b4 ?_
  refine x_iadd dX10_spellsCell_34 ?_
  refine x_if_ne dX10_spellsCell_35 (tgt := 39) rfl ⟨fun c5 => ?_, fun c5 => ?_⟩
  · have h := h.1 c5
    refine x_aload_n dX10_spellsCell_39 rfl ?_
    refine x_ldc2 (v := 63030) dX10_spellsCell_40 kc_RX10_131 ?_
    refine x_cVv10 [.long 63030] (mt_X10_spells hn hG h) dX10_spellsCell_43 lk_RX10_303 (km rfl hn) sh_336 rfl rfl (Nat.le_of_ble_eq_true rfl) (Rf_of rfl) (fun I6 h => ?_)
    refine x_aload_n dX10_spellsCell_46 rfl ?_
    refine x_iload_n dX10_spellsCell_47 rfl ?_
    refine x_cVv10 [.int v1] (mt_X10_spellsNumber hn hG h) dX10_spellsCell_48 lk_RX10_300 (km rfl hn) sh_336 rfl rfl (Nat.le_of_ble_eq_true rfl) (Rf_of rfl) (fun I7 h => ?_)
    refine x_aload_n dX10_spellsCell_51 rfl ?_
    refine x_iload_n dX10_spellsCell_52 rfl ?_
    refine x_cVv10 [.int v2] (mt_X10_spellsNumber hn hG h) dX10_spellsCell_53 lk_RX10_300 (km rfl hn) sh_336 rfl rfl (Nat.le_of_ble_eq_true rfl) (Rf_of rfl) (fun I8 h => ?_)
    refine x_aload_n dX10_spellsCell_56 rfl ?_
    refine x_aload_n dX10_spellsCell_57 rfl ?_
    refine x_getr (j := 337) dX10_spellsCell_58 fk_RX10_7 (km rfl hn) sh_336 (rt_336_1 hG) ?_
    refine x_bipush (v := 32) dX10_spellsCell_61 kb_32 ?_
    refine x_iload_n dX10_spellsCell_63 rfl ?_
    refine x_iadd dX10_spellsCell_64 ?_
    obtain ⟨b9, h⟩ := h
    refine x_iaload dX10_spellsCell_65 (km rfl hn) sh_337 b9 ?_
    refine x_cVv10 [.int (I8 337 (ix (32 + x1)))] (mt_X10_spellsNumber hn hG h) dX10_spellsCell_66 lk_RX10_300 (km rfl hn) sh_336 rfl rfl (Nat.le_of_ble_eq_true rfl) (Rf_of rfl) (fun I10 h => ?_)
    refine x_aload_n dX10_spellsCell_69 rfl ?_
    refine x_aload_n dX10_spellsCell_70 rfl ?_
    refine x_getr (j := 337) dX10_spellsCell_71 fk_RX10_7 (km rfl hn) sh_336 (rt_336_1 hG) ?_
    refine x_bipush (v := 41) dX10_spellsCell_74 kb_41 ?_
    refine x_iload_n dX10_spellsCell_76 rfl ?_
    refine x_iadd dX10_spellsCell_77 ?_
    obtain ⟨b11, h⟩ := h
    refine x_iaload dX10_spellsCell_78 (km rfl hn) sh_337 b11 ?_
    refine x_cVv10 [.int (I10 337 (ix (41 + x1)))] (mt_X10_spellsNumber hn hG h) dX10_spellsCell_79 lk_RX10_300 (km rfl hn) sh_336 rfl rfl (Nat.le_of_ble_eq_true rfl) (Rf_of rfl) (fun I12 h => ?_)
    refine x_aload_n dX10_spellsCell_82 rfl ?_
    refine x_aload_n dX10_spellsCell_83 rfl ?_
    refine x_getr (j := 337) dX10_spellsCell_84 fk_RX10_7 (km rfl hn) sh_336 (rt_336_1 hG) ?_
    refine x_bipush (v := 50) dX10_spellsCell_87 kb_50 ?_
    refine x_iload_n dX10_spellsCell_89 rfl ?_
    refine x_iadd dX10_spellsCell_90 ?_
    obtain ⟨b13, h⟩ := h
    refine x_iaload dX10_spellsCell_91 (km rfl hn) sh_337 b13 ?_
    refine x_cVv10 [.int (I12 337 (ix (50 + x1)))] (mt_X10_spellsLast hn hG h) dX10_spellsCell_92 lk_RX10_307 (km rfl hn) sh_336 rfl rfl (Nat.le_of_ble_eq_true rfl) (Rf_of rfl) (fun I14 h => ?_)
    exact x_return dX10_spellsCell_95 ⟨rfl, rfl, rfl, rfl, h⟩
  · have h := h.2 c5
    exact x_return dX10_spellsCell_38 ⟨rfl, rfl, rfl, rfl, h⟩
abbrev rm_X10_spellsOne : Room := { frames := 2, cells := 0, slots := 0, locals := 42 }
def wp_X10_spellsOne (I : MI) (v1 : Int64) (v3 : Int32) (Q : MI → Prop) : Prop :=
    (wp_X10_spells I v1 (fun I1 => ((wp_X10_spellsLast I1 v3 (fun I2 => (Q I2))))))
set_option maxRecDepth 20000 in
theorem mt_X10_spellsOne {E : Ev} {l : Launch} {n : Nat} {R : MR} (hn : 349 ≤ n) (hG : GRm R) {I : MI} {L : ML} {v1 : Int64} {v3 : Int32} {Q : MI → Prop} (h : wp_X10_spellsOne I v1 v3 Q) : MX E l rm_X10_spellsOne yX10_spellsOne cX10_spellsOne 4 none [.ref 336, .long v1, .int v3] n I L R (Qv n R (V10 I L Q)) := by
  refine MX_of (ls := [(0, .ref 336), (1, .long v1), (3, .int v3)]) (by decide) (Nat.le_of_ble_eq_true rfl) rfl ?_
  unfold wp_X10_spellsOne at h
  refine x_aload_n dX10_spellsOne_0 rfl ?_
  refine x_lload_n dX10_spellsOne_1 rfl ?_
  refine x_cVv10 [.long v1] (mt_X10_spells hn hG h) dX10_spellsOne_2 lk_RX10_303 (km rfl hn) sh_336 rfl rfl (Nat.le_of_ble_eq_true rfl) (Rf_of rfl) (fun I1 h => ?_)
  refine x_aload_n dX10_spellsOne_5 rfl ?_
  refine x_iload_n dX10_spellsOne_6 rfl ?_
  refine x_cVv10 [.int v3] (mt_X10_spellsLast hn hG h) dX10_spellsOne_7 lk_RX10_307 (km rfl hn) sh_336 rfl rfl (Nat.le_of_ble_eq_true rfl) (Rf_of rfl) (fun I2 h => ?_)
  exact x_return dX10_spellsOne_10 ⟨rfl, rfl, rfl, rfl, h⟩
abbrev rm_X10_spellsAll : Room := { frames := 3, cells := 0, slots := 0, locals := 65 }
def lp_X10_spellsAll_46 (kf108 : MI → Prop) : Nat → Int32 → MI → Prop
  | 0, _, _ => False
  | n + 1, v1, I =>
    (vp_in 0 2212 ∧ (((I 337 (ix 0)) ≤ v1 → kf108 I) ∧ (¬ (I 337 (ix 0)) ≤ v1 → (wp_X10_spells I 316163 (fun I10 => ((vp_in (20 + v1) 2212 ∧ (wp_X10_spellsNumber I10 (I10 337 (ix (20 + v1))) (fun I12 => ((vp_in (23 + v1) 2212 ∧ (wp_X10_spellsNumber I12 (I12 337 (ix (23 + v1))) (fun I14 => ((vp_in (26 + v1) 2212 ∧ (wp_X10_spellsLast I14 (I14 337 (ix (26 + v1))) (fun I16 => ((lp_X10_spellsAll_46 kf108 n (v1 + 1) I16)))))))))))))))))))
set_option maxRecDepth 20000 in
theorem lpt_X10_spellsAll_46 {E : Ev} {l : Launch} {n : Nat} {R : MR} (hn : 349 ≤ n) (hG : GRm R) {I0 : MI} {Q : MI → Prop} {L : ML} {kf108 : MI → Prop}
    (hK108 : ∀ (I : MI), kf108 I → X E l rm_X10_spellsAll yX10_spellsAll cX10_spellsAll 3 none noX (ZM E rm_X10_spellsAll (Qv n R (V10 I0 L Q))) 108 [(0, .ref 336)] [] n I L R 0 0) : ∀ (N : Nat) (v1 : Int32) (I : MI), lp_X10_spellsAll_46 kf108 N v1 I → X E l rm_X10_spellsAll yX10_spellsAll cX10_spellsAll 3 none noX (ZM E rm_X10_spellsAll (Qv n R (V10 I0 L Q))) 46 [(0, .ref 336), (1, .int v1)] [] n I L R 0 0 := by
  intro N
  induction N with
  | zero => intro v1 I h; exact False.elim h
  | succ N ih =>
    intro v1 I h
    unfold lp_X10_spellsAll_46 at h
    refine x_iload_n dX10_spellsAll_46 rfl ?_
    refine x_aload_n dX10_spellsAll_47 rfl ?_
    refine x_getr (j := 337) dX10_spellsAll_48 fk_RX10_7 (km rfl hn) sh_336 (rt_336_1 hG) ?_
    refine x_iconst (v := 0) dX10_spellsAll_51 ki_0 ?_
    obtain ⟨b8, h⟩ := h
    refine x_iaload dX10_spellsAll_52 (km rfl hn) sh_337 b8 ?_
    refine x_icmp_ge dX10_spellsAll_53 (tgt := 108) rfl ⟨fun c9 => ?_, fun c9 => ?_⟩
    · have h := h.1 c9
      refine x_ls (ls' := [(0, .ref 336)]) [0] rfl ?_
      exact hK108 I h
    · have h := h.2 c9
      refine x_aload_n dX10_spellsAll_56 rfl ?_
      refine x_ldc2 (v := 316163) dX10_spellsAll_57 kc_RX10_121 ?_
      refine x_cVv10 [.long 316163] (mt_X10_spells hn hG h) dX10_spellsAll_60 lk_RX10_303 (km rfl hn) sh_336 rfl rfl (Nat.le_of_ble_eq_true rfl) (Rf_of rfl) (fun I10 h => ?_)
      refine x_aload_n dX10_spellsAll_63 rfl ?_
      refine x_aload_n dX10_spellsAll_64 rfl ?_
      refine x_getr (j := 337) dX10_spellsAll_65 fk_RX10_7 (km rfl hn) sh_336 (rt_336_1 hG) ?_
      refine x_bipush (v := 20) dX10_spellsAll_68 kb_20 ?_
      refine x_iload_n dX10_spellsAll_70 rfl ?_
      refine x_iadd dX10_spellsAll_71 ?_
      obtain ⟨b11, h⟩ := h
      refine x_iaload dX10_spellsAll_72 (km rfl hn) sh_337 b11 ?_
      refine x_cVv10 [.int (I10 337 (ix (20 + v1)))] (mt_X10_spellsNumber hn hG h) dX10_spellsAll_73 lk_RX10_300 (km rfl hn) sh_336 rfl rfl (Nat.le_of_ble_eq_true rfl) (Rf_of rfl) (fun I12 h => ?_)
      refine x_aload_n dX10_spellsAll_76 rfl ?_
      refine x_aload_n dX10_spellsAll_77 rfl ?_
      refine x_getr (j := 337) dX10_spellsAll_78 fk_RX10_7 (km rfl hn) sh_336 (rt_336_1 hG) ?_
      refine x_bipush (v := 23) dX10_spellsAll_81 kb_23 ?_
      refine x_iload_n dX10_spellsAll_83 rfl ?_
      refine x_iadd dX10_spellsAll_84 ?_
      obtain ⟨b13, h⟩ := h
      refine x_iaload dX10_spellsAll_85 (km rfl hn) sh_337 b13 ?_
      refine x_cVv10 [.int (I12 337 (ix (23 + v1)))] (mt_X10_spellsNumber hn hG h) dX10_spellsAll_86 lk_RX10_300 (km rfl hn) sh_336 rfl rfl (Nat.le_of_ble_eq_true rfl) (Rf_of rfl) (fun I14 h => ?_)
      refine x_aload_n dX10_spellsAll_89 rfl ?_
      refine x_aload_n dX10_spellsAll_90 rfl ?_
      refine x_getr (j := 337) dX10_spellsAll_91 fk_RX10_7 (km rfl hn) sh_336 (rt_336_1 hG) ?_
      refine x_bipush (v := 26) dX10_spellsAll_94 kb_26 ?_
      refine x_iload_n dX10_spellsAll_96 rfl ?_
      refine x_iadd dX10_spellsAll_97 ?_
      obtain ⟨b15, h⟩ := h
      refine x_iaload dX10_spellsAll_98 (km rfl hn) sh_337 b15 ?_
      refine x_cVv10 [.int (I14 337 (ix (26 + v1)))] (mt_X10_spellsLast hn hG h) dX10_spellsAll_99 lk_RX10_307 (km rfl hn) sh_336 rfl rfl (Nat.le_of_ble_eq_true rfl) (Rf_of rfl) (fun I16 h => ?_)
      refine x_iinc (v := v1 + 1) (ls' := [(1, .int (v1 + 1)), (0, .ref 336)]) dX10_spellsAll_102 rfl (congrArg (_ + ·) ki_1) (Nat.le_of_ble_eq_true rfl) rfl ?_
      refine x_goto dX10_spellsAll_105 (tgt := 46) rfl ?_
      refine x_ls (ls' := [(0, .ref 336), (1, .int (v1 + 1))]) [1, 0] rfl ?_
      exact ih (v1 + 1) I16 h
def lp_X10_spellsAll_110 (kf142 : MI → Prop) : Nat → Int32 → MI → Prop
  | 0, _, _ => False
  | n + 1, v1, I =>
    (vp_in 1 2212 ∧ (((I 337 (ix 1)) ≤ v1 → kf142 I) ∧ (¬ (I 337 (ix 1)) ≤ v1 → (vp_in (29 + v1) 2212 ∧ (wp_X10_spellsOne I 40613 (I 337 (ix (29 + v1))) (fun I22 => ((lp_X10_spellsAll_110 kf142 n (v1 + 1) I22))))))))
set_option maxRecDepth 20000 in
theorem lpt_X10_spellsAll_110 {E : Ev} {l : Launch} {n : Nat} {R : MR} (hn : 349 ≤ n) (hG : GRm R) {I0 : MI} {Q : MI → Prop} {L : ML} {kf142 : MI → Prop}
    (hK142 : ∀ (I : MI), kf142 I → X E l rm_X10_spellsAll yX10_spellsAll cX10_spellsAll 3 none noX (ZM E rm_X10_spellsAll (Qv n R (V10 I0 L Q))) 142 [(0, .ref 336)] [] n I L R 0 0) : ∀ (N : Nat) (v1 : Int32) (I : MI), lp_X10_spellsAll_110 kf142 N v1 I → X E l rm_X10_spellsAll yX10_spellsAll cX10_spellsAll 3 none noX (ZM E rm_X10_spellsAll (Qv n R (V10 I0 L Q))) 110 [(0, .ref 336), (1, .int v1)] [] n I L R 0 0 := by
  intro N
  induction N with
  | zero => intro v1 I h; exact False.elim h
  | succ N ih =>
    intro v1 I h
    unfold lp_X10_spellsAll_110 at h
    refine x_iload_n dX10_spellsAll_110 rfl ?_
    refine x_aload_n dX10_spellsAll_111 rfl ?_
    refine x_getr (j := 337) dX10_spellsAll_112 fk_RX10_7 (km rfl hn) sh_336 (rt_336_1 hG) ?_
    refine x_iconst (v := 1) dX10_spellsAll_115 ki_1 ?_
    obtain ⟨b19, h⟩ := h
    refine x_iaload dX10_spellsAll_116 (km rfl hn) sh_337 b19 ?_
    refine x_icmp_ge dX10_spellsAll_117 (tgt := 142) rfl ⟨fun c20 => ?_, fun c20 => ?_⟩
    · have h := h.1 c20
      refine x_ls (ls' := [(0, .ref 336)]) [0] rfl ?_
      exact hK142 I h
    · have h := h.2 c20
      refine x_aload_n dX10_spellsAll_120 rfl ?_
      refine x_ldc2 (v := 40613) dX10_spellsAll_121 kc_RX10_126 ?_
      refine x_aload_n dX10_spellsAll_124 rfl ?_
      refine x_getr (j := 337) dX10_spellsAll_125 fk_RX10_7 (km rfl hn) sh_336 (rt_336_1 hG) ?_
      refine x_bipush (v := 29) dX10_spellsAll_128 kb_29 ?_
      refine x_iload_n dX10_spellsAll_130 rfl ?_
      refine x_iadd dX10_spellsAll_131 ?_
      obtain ⟨b21, h⟩ := h
      refine x_iaload dX10_spellsAll_132 (km rfl hn) sh_337 b21 ?_
      refine x_cVv10 [.long 40613, .int (I 337 (ix (29 + v1)))] (mt_X10_spellsOne hn hG h) dX10_spellsAll_133 lk_RX10_310 (km rfl hn) sh_336 rfl rfl (Nat.le_of_ble_eq_true rfl) (Rf_of rfl) (fun I22 h => ?_)
      refine x_iinc (v := v1 + 1) (ls' := [(1, .int (v1 + 1)), (0, .ref 336)]) dX10_spellsAll_136 rfl (congrArg (_ + ·) ki_1) (Nat.le_of_ble_eq_true rfl) rfl ?_
      refine x_goto dX10_spellsAll_139 (tgt := 110) rfl ?_
      refine x_ls (ls' := [(0, .ref 336), (1, .int (v1 + 1))]) [1, 0] rfl ?_
      exact ih (v1 + 1) I22 h
def lp_X10_spellsAll_156 (v1 : Int32) (kf178 : MI → Prop) : Nat → Int32 → MI → Prop
  | 0, _, _ => False
  | n + 1, v2, I =>
    (vp_in 0 2212 ∧ (((I 337 (ix 0)) ≤ v2 → kf178 I) ∧ (¬ (I 337 (ix 0)) ≤ v2 → (wp_X10_spellsCell I v1 v2 (fun I29 => ((lp_X10_spellsAll_156 v1 kf178 n (v2 + 1) I29)))))))
set_option maxRecDepth 20000 in
theorem lpt_X10_spellsAll_156 {E : Ev} {l : Launch} {n : Nat} {R : MR} (hn : 349 ≤ n) (hG : GRm R) {I0 : MI} {Q : MI → Prop} {v1 : Int32} {L : ML} {kf178 : MI → Prop}
    (hK178 : ∀ (I : MI), kf178 I → X E l rm_X10_spellsAll yX10_spellsAll cX10_spellsAll 3 none noX (ZM E rm_X10_spellsAll (Qv n R (V10 I0 L Q))) 178 [(0, .ref 336), (1, .int v1)] [] n I L R 0 0) : ∀ (N : Nat) (v2 : Int32) (I : MI), lp_X10_spellsAll_156 v1 kf178 N v2 I → X E l rm_X10_spellsAll yX10_spellsAll cX10_spellsAll 3 none noX (ZM E rm_X10_spellsAll (Qv n R (V10 I0 L Q))) 156 [(0, .ref 336), (1, .int v1), (2, .int v2)] [] n I L R 0 0 := by
  intro N
  induction N with
  | zero => intro v2 I h; exact False.elim h
  | succ N ih =>
    intro v2 I h
    unfold lp_X10_spellsAll_156 at h
    refine x_iload_n dX10_spellsAll_156 rfl ?_
    refine x_aload_n dX10_spellsAll_157 rfl ?_
    refine x_getr (j := 337) dX10_spellsAll_158 fk_RX10_7 (km rfl hn) sh_336 (rt_336_1 hG) ?_
    refine x_iconst (v := 0) dX10_spellsAll_161 ki_0 ?_
    obtain ⟨b27, h⟩ := h
    refine x_iaload dX10_spellsAll_162 (km rfl hn) sh_337 b27 ?_
    refine x_icmp_ge dX10_spellsAll_163 (tgt := 178) rfl ⟨fun c28 => ?_, fun c28 => ?_⟩
    · have h := h.1 c28
      refine x_ls (ls' := [(0, .ref 336), (1, .int v1)]) [0, 1] rfl ?_
      exact hK178 I h
    · have h := h.2 c28
      refine x_aload_n dX10_spellsAll_166 rfl ?_
      refine x_iload_n dX10_spellsAll_167 rfl ?_
      refine x_iload_n dX10_spellsAll_168 rfl ?_
      refine x_cVv10 [.int v1, .int v2] (mt_X10_spellsCell hn hG h) dX10_spellsAll_169 lk_RX10_314 (km rfl hn) sh_336 rfl rfl (Nat.le_of_ble_eq_true rfl) (Rf_of rfl) (fun I29 h => ?_)
      refine x_iinc (v := v2 + 1) (ls' := [(2, .int (v2 + 1)), (0, .ref 336), (1, .int v1)]) dX10_spellsAll_172 rfl (congrArg (_ + ·) ki_1) (Nat.le_of_ble_eq_true rfl) rfl ?_
      refine x_goto dX10_spellsAll_175 (tgt := 156) rfl ?_
      refine x_ls (ls' := [(0, .ref 336), (1, .int v1), (2, .int (v2 + 1))]) [1, 2, 0] rfl ?_
      exact ih (v2 + 1) I29 h
def lp_X10_spellsAll_144 (kf184 : MI → Prop) : Nat → Int32 → MI → Prop
  | 0, _, _ => False
  | n + 1, v1, I =>
    (vp_in 1 2212 ∧ (((I 337 (ix 1)) ≤ v1 → kf184 I) ∧ (¬ (I 337 (ix 1)) ≤ v1 → (∃ N30, lp_X10_spellsAll_156 v1 (fun I31 => (lp_X10_spellsAll_144 kf184 n (v1 + 1) I31)) N30 0 I))))
set_option maxRecDepth 20000 in
theorem lpt_X10_spellsAll_144 {E : Ev} {l : Launch} {n : Nat} {R : MR} (hn : 349 ≤ n) (hG : GRm R) {I0 : MI} {Q : MI → Prop} {L : ML} {kf184 : MI → Prop}
    (hK184 : ∀ (I : MI), kf184 I → X E l rm_X10_spellsAll yX10_spellsAll cX10_spellsAll 3 none noX (ZM E rm_X10_spellsAll (Qv n R (V10 I0 L Q))) 184 [(0, .ref 336)] [] n I L R 0 0) : ∀ (N : Nat) (v1 : Int32) (I : MI), lp_X10_spellsAll_144 kf184 N v1 I → X E l rm_X10_spellsAll yX10_spellsAll cX10_spellsAll 3 none noX (ZM E rm_X10_spellsAll (Qv n R (V10 I0 L Q))) 144 [(0, .ref 336), (1, .int v1)] [] n I L R 0 0 := by
  intro N
  induction N with
  | zero => intro v1 I h; exact False.elim h
  | succ N ih =>
    intro v1 I h
    unfold lp_X10_spellsAll_144 at h
    refine x_iload_n dX10_spellsAll_144 rfl ?_
    refine x_aload_n dX10_spellsAll_145 rfl ?_
    refine x_getr (j := 337) dX10_spellsAll_146 fk_RX10_7 (km rfl hn) sh_336 (rt_336_1 hG) ?_
    refine x_iconst (v := 1) dX10_spellsAll_149 ki_1 ?_
    obtain ⟨b25, h⟩ := h
    refine x_iaload dX10_spellsAll_150 (km rfl hn) sh_337 b25 ?_
    refine x_icmp_ge dX10_spellsAll_151 (tgt := 184) rfl ⟨fun c26 => ?_, fun c26 => ?_⟩
    · have h := h.1 c26
      refine x_ls (ls' := [(0, .ref 336)]) [0] rfl ?_
      exact hK184 I h
    · have h := h.2 c26
      refine x_iconst (v := 0) dX10_spellsAll_154 ki_0 ?_
      refine x_istore_n (ls' := [(2, .int 0), (0, .ref 336), (1, .int v1)]) dX10_spellsAll_155 (Nat.le_of_ble_eq_true rfl) rfl ?_
      refine x_ls (ls' := [(0, .ref 336), (1, .int v1), (2, .int 0)]) [1, 2, 0] rfl ?_
      obtain ⟨N30, h⟩ := h
      refine lpt_X10_spellsAll_156 hn hG (fun I31 h => ?_) N30 0 I h
      refine x_iinc (v := v1 + 1) (ls' := [(1, .int (v1 + 1)), (0, .ref 336)]) dX10_spellsAll_178 rfl (congrArg (_ + ·) ki_1) (Nat.le_of_ble_eq_true rfl) rfl ?_
      refine x_goto dX10_spellsAll_181 (tgt := 144) rfl ?_
      refine x_ls (ls' := [(0, .ref 336), (1, .int (v1 + 1))]) [1, 0] rfl ?_
      exact ih (v1 + 1) I31 h
def jn_X10_spellsAll_233 (I : MI) (v1 : Int32) (kj186 : Int32 → MI → Prop) : Prop :=
    kj186 (v1 + 1) I
set_option maxRecDepth 20000 in
theorem jnt_X10_spellsAll_233 {E : Ev} {l : Launch} {n : Nat} {R : MR} (hn : 349 ≤ n) (hG : GRm R) {I0 : MI} {Q : MI → Prop} {I : MI} {L : ML} {v1 : Int32} {kj186 : Int32 → MI → Prop}
    (hJ186 : ∀ (v1 : Int32) (I : MI), kj186 v1 I → X E l rm_X10_spellsAll yX10_spellsAll cX10_spellsAll 3 none noX (ZM E rm_X10_spellsAll (Qv n R (V10 I0 L Q))) 186 [(0, .ref 336), (1, .int v1)] [] n I L R 0 0) (h : jn_X10_spellsAll_233 I v1 kj186) : X E l rm_X10_spellsAll yX10_spellsAll cX10_spellsAll 3 none noX (ZM E rm_X10_spellsAll (Qv n R (V10 I0 L Q))) 233 [(0, .ref 336), (1, .int v1)] [] n I L R 0 0 := by
  unfold jn_X10_spellsAll_233 at h
  refine x_iinc (v := v1 + 1) (ls' := [(1, .int (v1 + 1)), (0, .ref 336)]) dX10_spellsAll_233 rfl (congrArg (_ + ·) ki_1) (Nat.le_of_ble_eq_true rfl) rfl ?_
  refine x_goto dX10_spellsAll_236 (tgt := 186) rfl ?_
  refine x_ls (ls' := [(0, .ref 336), (1, .int (v1 + 1))]) [1, 0] rfl ?_
  exact hJ186 (v1 + 1) I h
def lp_X10_spellsAll_186 (Q : MI → Prop) : Nat → Int32 → MI → Prop
  | 0, _, _ => False
  | n + 1, v1, I =>
    (vp_in 0 2212 ∧ (((I 337 (ix 0)) ≤ v1 → Q I) ∧ (¬ (I 337 (ix 0)) ≤ v1 → (vp_in (59 + v1) 2212 ∧ (((I 337 (ix (59 + v1))) ≤ 0 → (jn_X10_spellsAll_233 I v1 (fun x38 I39 => (lp_X10_spellsAll_186 Q n x38 I39)))) ∧ (¬ (I 337 (ix (59 + v1))) ≤ 0 → (wp_X10_spells I 12531826 (fun I40 => ((wp_X10_spellsNumber I40 v1 (fun I41 => ((vp_in (59 + v1) 2212 ∧ (wp_X10_spellsLast I41 (I41 337 (ix (59 + v1))) (fun I43 => ((jn_X10_spellsAll_233 I43 v1 (fun x44 I45 => (lp_X10_spellsAll_186 Q n x44 I45)))))))))))))))))))
set_option maxRecDepth 20000 in
theorem lpt_X10_spellsAll_186 {E : Ev} {l : Launch} {n : Nat} {R : MR} (hn : 349 ≤ n) (hG : GRm R) {I0 : MI} {Q : MI → Prop} {L : ML} : ∀ (N : Nat) (v1 : Int32) (I : MI), lp_X10_spellsAll_186 Q N v1 I → X E l rm_X10_spellsAll yX10_spellsAll cX10_spellsAll 3 none noX (ZM E rm_X10_spellsAll (Qv n R (V10 I0 L Q))) 186 [(0, .ref 336), (1, .int v1)] [] n I L R 0 0 := by
  intro N
  induction N with
  | zero => intro v1 I h; exact False.elim h
  | succ N ih =>
    intro v1 I h
    unfold lp_X10_spellsAll_186 at h
    refine x_iload_n dX10_spellsAll_186 rfl ?_
    refine x_aload_n dX10_spellsAll_187 rfl ?_
    refine x_getr (j := 337) dX10_spellsAll_188 fk_RX10_7 (km rfl hn) sh_336 (rt_336_1 hG) ?_
    refine x_iconst (v := 0) dX10_spellsAll_191 ki_0 ?_
    obtain ⟨b34, h⟩ := h
    refine x_iaload dX10_spellsAll_192 (km rfl hn) sh_337 b34 ?_
    refine x_icmp_ge dX10_spellsAll_193 (tgt := 239) rfl ⟨fun c35 => ?_, fun c35 => ?_⟩
    · have h := h.1 c35
      exact x_return dX10_spellsAll_239 ⟨rfl, rfl, rfl, rfl, h⟩
    · have h := h.2 c35
      refine x_aload_n dX10_spellsAll_196 rfl ?_
      refine x_getr (j := 337) dX10_spellsAll_197 fk_RX10_7 (km rfl hn) sh_336 (rt_336_1 hG) ?_
      refine x_bipush (v := 59) dX10_spellsAll_200 kb_59 ?_
      refine x_iload_n dX10_spellsAll_202 rfl ?_
      refine x_iadd dX10_spellsAll_203 ?_
      obtain ⟨b36, h⟩ := h
      refine x_iaload dX10_spellsAll_204 (km rfl hn) sh_337 b36 ?_
      refine x_if_le dX10_spellsAll_205 (tgt := 233) rfl ⟨fun c37 => ?_, fun c37 => ?_⟩
      · have h := h.1 c37
        refine jnt_X10_spellsAll_233 hn hG (fun x38 I39 h => ?_) h
        exact ih x38 I39 h
      · have h := h.2 c37
        refine x_aload_n dX10_spellsAll_208 rfl ?_
        refine x_ldc2 (v := 12531826) dX10_spellsAll_209 kc_RX10_136 ?_
        refine x_cVv10 [.long 12531826] (mt_X10_spells hn hG h) dX10_spellsAll_212 lk_RX10_303 (km rfl hn) sh_336 rfl rfl (Nat.le_of_ble_eq_true rfl) (Rf_of rfl) (fun I40 h => ?_)
        refine x_aload_n dX10_spellsAll_215 rfl ?_
        refine x_iload_n dX10_spellsAll_216 rfl ?_
        refine x_cVv10 [.int v1] (mt_X10_spellsNumber hn hG h) dX10_spellsAll_217 lk_RX10_300 (km rfl hn) sh_336 rfl rfl (Nat.le_of_ble_eq_true rfl) (Rf_of rfl) (fun I41 h => ?_)
        refine x_aload_n dX10_spellsAll_220 rfl ?_
        refine x_aload_n dX10_spellsAll_221 rfl ?_
        refine x_getr (j := 337) dX10_spellsAll_222 fk_RX10_7 (km rfl hn) sh_336 (rt_336_1 hG) ?_
        refine x_bipush (v := 59) dX10_spellsAll_225 kb_59 ?_
        refine x_iload_n dX10_spellsAll_227 rfl ?_
        refine x_iadd dX10_spellsAll_228 ?_
        obtain ⟨b42, h⟩ := h
        refine x_iaload dX10_spellsAll_229 (km rfl hn) sh_337 b42 ?_
        refine x_cVv10 [.int (I41 337 (ix (59 + v1)))] (mt_X10_spellsLast hn hG h) dX10_spellsAll_230 lk_RX10_307 (km rfl hn) sh_336 rfl rfl (Nat.le_of_ble_eq_true rfl) (Rf_of rfl) (fun I43 h => ?_)
        refine jnt_X10_spellsAll_233 hn hG (fun x44 I45 h => ?_) h
        exact ih x44 I45 h
def wp_X10_spellsAll (I : MI) (Q : MI → Prop) : Prop :=
    (∀ I1, I1 = u2 I 336 23 0 → (vp_in 2 2212 ∧ (wp_X10_spellsOne I1 854090722 (I1 337 (ix 2)) (fun I3 => ((vp_in 3 2212 ∧ (wp_X10_spellsOne I3 220309 (I3 337 (ix 3)) (fun I5 => ((vp_in 4 2212 ∧ (wp_X10_spellsOne I5 369932 (I5 337 (ix 4)) (fun I7 => ((∃ N17, lp_X10_spellsAll_46 (fun I18 => (∃ N23, lp_X10_spellsAll_110 (fun I24 => (∃ N32, lp_X10_spellsAll_144 (fun I33 => (∃ N46, lp_X10_spellsAll_186 Q N46 0 I33)) N32 0 I24)) N23 0 I18)) N17 0 I7))))))))))))))
set_option maxRecDepth 20000 in
theorem mt_X10_spellsAll {E : Ev} {l : Launch} {n : Nat} {R : MR} (hn : 349 ≤ n) (hG : GRm R) {I : MI} {L : ML} {Q : MI → Prop} (h : wp_X10_spellsAll I Q) : MX E l rm_X10_spellsAll yX10_spellsAll cX10_spellsAll 3 none [.ref 336] n I L R (Qv n R (V10 I L Q)) := by
  refine MX_of (ls := [(0, .ref 336)]) (by decide) (Nat.le_of_ble_eq_true rfl) rfl ?_
  unfold wp_X10_spellsAll at h
  refine x_aload_n dX10_spellsAll_0 rfl ?_
  refine x_iconst (v := 0) dX10_spellsAll_1 ki_0 ?_
  refine x_puti dX10_spellsAll_2 fk_RX10_297 fw_8_23 (vp_nar_int _) rfl (km rfl hn) sh_336 (fun I1 eI1 => ?_)
  have h := h I1 eI1
  refine x_aload_n dX10_spellsAll_5 rfl ?_
  refine x_ldc2 (v := 854090722) dX10_spellsAll_6 kc_RX10_107 ?_
  refine x_aload_n dX10_spellsAll_9 rfl ?_
  refine x_getr (j := 337) dX10_spellsAll_10 fk_RX10_7 (km rfl hn) sh_336 (rt_336_1 hG) ?_
  refine x_iconst (v := 2) dX10_spellsAll_13 ki_2 ?_
  obtain ⟨b2, h⟩ := h
  refine x_iaload dX10_spellsAll_14 (km rfl hn) sh_337 b2 ?_
  refine x_cVv10 [.long 854090722, .int (I1 337 (ix 2))] (mt_X10_spellsOne hn hG h) dX10_spellsAll_15 lk_RX10_310 (km rfl hn) sh_336 rfl rfl (Nat.le_of_ble_eq_true rfl) (Rf_of rfl) (fun I3 h => ?_)
  refine x_aload_n dX10_spellsAll_18 rfl ?_
  refine x_ldc2 (v := 220309) dX10_spellsAll_19 kc_RX10_117 ?_
  refine x_aload_n dX10_spellsAll_22 rfl ?_
  refine x_getr (j := 337) dX10_spellsAll_23 fk_RX10_7 (km rfl hn) sh_336 (rt_336_1 hG) ?_
  refine x_iconst (v := 3) dX10_spellsAll_26 ki_3 ?_
  obtain ⟨b4, h⟩ := h
  refine x_iaload dX10_spellsAll_27 (km rfl hn) sh_337 b4 ?_
  refine x_cVv10 [.long 220309, .int (I3 337 (ix 3))] (mt_X10_spellsOne hn hG h) dX10_spellsAll_28 lk_RX10_310 (km rfl hn) sh_336 rfl rfl (Nat.le_of_ble_eq_true rfl) (Rf_of rfl) (fun I5 h => ?_)
  refine x_aload_n dX10_spellsAll_31 rfl ?_
  refine x_ldc2 (v := 369932) dX10_spellsAll_32 kc_RX10_119 ?_
  refine x_aload_n dX10_spellsAll_35 rfl ?_
  refine x_getr (j := 337) dX10_spellsAll_36 fk_RX10_7 (km rfl hn) sh_336 (rt_336_1 hG) ?_
  refine x_iconst (v := 4) dX10_spellsAll_39 ki_4 ?_
  obtain ⟨b6, h⟩ := h
  refine x_iaload dX10_spellsAll_40 (km rfl hn) sh_337 b6 ?_
  refine x_cVv10 [.long 369932, .int (I5 337 (ix 4))] (mt_X10_spellsOne hn hG h) dX10_spellsAll_41 lk_RX10_310 (km rfl hn) sh_336 rfl rfl (Nat.le_of_ble_eq_true rfl) (Rf_of rfl) (fun I7 h => ?_)
  refine x_iconst (v := 0) dX10_spellsAll_44 ki_0 ?_
  refine x_istore_n (ls' := [(1, .int 0), (0, .ref 336)]) dX10_spellsAll_45 (Nat.le_of_ble_eq_true rfl) rfl ?_
  refine x_ls (ls' := [(0, .ref 336), (1, .int 0)]) [1, 0] rfl ?_
  obtain ⟨N17, h⟩ := h
  refine lpt_X10_spellsAll_46 hn hG (fun I18 h => ?_) N17 0 I7 h
  refine x_iconst (v := 0) dX10_spellsAll_108 ki_0 ?_
  refine x_istore_n (ls' := [(1, .int 0), (0, .ref 336)]) dX10_spellsAll_109 (Nat.le_of_ble_eq_true rfl) rfl ?_
  refine x_ls (ls' := [(0, .ref 336), (1, .int 0)]) [1, 0] rfl ?_
  obtain ⟨N23, h⟩ := h
  refine lpt_X10_spellsAll_110 hn hG (fun I24 h => ?_) N23 0 I18 h
  refine x_iconst (v := 0) dX10_spellsAll_142 ki_0 ?_
  refine x_istore_n (ls' := [(1, .int 0), (0, .ref 336)]) dX10_spellsAll_143 (Nat.le_of_ble_eq_true rfl) rfl ?_
  refine x_ls (ls' := [(0, .ref 336), (1, .int 0)]) [1, 0] rfl ?_
  obtain ⟨N32, h⟩ := h
  refine lpt_X10_spellsAll_144 hn hG (fun I33 h => ?_) N32 0 I24 h
  refine x_iconst (v := 0) dX10_spellsAll_184 ki_0 ?_
  refine x_istore_n (ls' := [(1, .int 0), (0, .ref 336)]) dX10_spellsAll_185 (Nat.le_of_ble_eq_true rfl) rfl ?_
  refine x_ls (ls' := [(0, .ref 336), (1, .int 0)]) [1, 0] rfl ?_
  obtain ⟨N46, h⟩ := h
  exact lpt_X10_spellsAll_186 hn hG  N46 0 I33 h
abbrev rm_X10_spell : Room := { frames := 4, cells := 0, slots := 0, locals := 87 }
def wp_X10_spell (I : MI) (v1 : Int32) (Q : Int32 → MI → Prop) : Prop :=
    (((-1) ≤ v1 → (wp_X10_spellsAll I (fun I2 => (((¬ v1 = (-1) → (((I2 336 23) ≤ v1 → Q (-2) I2) ∧ (¬ (I2 336 23) ≤ v1 → (vp_in v1 500 ∧ Q (I2 348 (ix v1)) I2)))) ∧ (v1 = (-1) → Q (I2 336 23) I2)))))) ∧ (¬ (-1) ≤ v1 → Q (-1) I))
set_option maxRecDepth 20000 in
theorem mt_X10_spell {E : Ev} {l : Launch} {n : Nat} {R : MR} (hn : 349 ≤ n) (hG : GRm R) {I : MI} {L : ML} {v1 : Int32} {Q : Int32 → MI → Prop} (h : wp_X10_spell I v1 Q) : MX E l rm_X10_spell yX10_spell cX10_spell 2 (some .int) [.ref 336, .int v1] n I L R (Qi n R (P10 I L Q)) := by
  refine MX_of (ls := [(0, .ref 336), (1, .int v1)]) (by decide) (Nat.le_of_ble_eq_true rfl) rfl ?_
  unfold wp_X10_spell at h
  refine x_iload_n dX10_spell_0 rfl ?_
  refine x_iconst (v := (-1)) dX10_spell_1 ki_m1 ?_
  refine x_icmp_ge dX10_spell_2 (tgt := 7) rfl ⟨fun c1 => ?_, fun c1 => ?_⟩
  · have h := h.1 c1
    refine x_aload_n dX10_spell_7 rfl ?_
    refine x_cVv10 [] (mt_X10_spellsAll hn hG h) dX10_spell_8 lk_RX10_317 (km rfl hn) sh_336 rfl rfl (Nat.le_of_ble_eq_true rfl) (Rf_of rfl) (fun I2 h => ?_)
    refine x_iload_n dX10_spell_11 rfl ?_
    refine x_iconst (v := (-1)) dX10_spell_12 ki_m1 ?_
    refine x_icmp_ne dX10_spell_13 (tgt := 23) rfl ⟨fun c3 => ?_, fun c3 => ?_⟩
    · have h := h.1 c3
      refine x_iload_n dX10_spell_23 rfl ?_
      refine x_aload_n dX10_spell_24 rfl ?_
      refine x_geti dX10_spell_25 fk_RX10_297 (km rfl hn) sh_336 ?_
      refine x_icmp_ge dX10_spell_28 (tgt := 40) rfl ⟨fun c4 => ?_, fun c4 => ?_⟩
      · have h := h.1 c4
        refine x_bipush (v := (-2)) dX10_spell_40 kb_m2 ?_
        exact x_ireturn dX10_spell_42 ⟨_, rfl, rfl, rfl, rfl, h⟩
      · have h := h.2 c4
        refine x_aload_n dX10_spell_31 rfl ?_
        refine x_getr (j := 348) dX10_spell_32 fk_RX10_44 (km rfl hn) sh_336 (rt_336_22 hG) ?_
        refine x_iload_n dX10_spell_35 rfl ?_
        obtain ⟨b5, h⟩ := h
        refine x_iaload dX10_spell_36 (km rfl hn) sh_348 b5 ?_
        refine x_goto dX10_spell_37 (tgt := 42) rfl ?_
        exact x_ireturn dX10_spell_42 ⟨_, rfl, rfl, rfl, rfl, h⟩
    · have h := h.2 c3
      refine x_aload_n dX10_spell_16 rfl ?_
      refine x_geti dX10_spell_17 fk_RX10_297 (km rfl hn) sh_336 ?_
      refine x_goto dX10_spell_20 (tgt := 42) rfl ?_
      exact x_ireturn dX10_spell_42 ⟨_, rfl, rfl, rfl, rfl, h⟩
  · have h := h.2 c1
    refine x_iconst (v := (-1)) dX10_spell_5 ki_m1 ?_
    exact x_ireturn dX10_spell_6 ⟨_, rfl, rfl, rfl, rfl, h⟩
abbrev rm_X10_waits : Room := { frames := 1, cells := 0, slots := 0, locals := 22 }
def wp_X10_waits (I : MI) (v1 : Int32) (Q : Int32 → Prop) : Prop :=
    (vp_in 17 2212 ∧ (wp_X10_isIn v1 0 ((I 337 (ix 17)) - 1) (fun x2 => (((x2 = 0 → Q (-1)) ∧ (¬ x2 = 0 → (vp_in (2012 + v1) 2212 ∧ Q (I 337 (ix (2012 + v1))))))))))
set_option maxRecDepth 20000 in
theorem mt_X10_waits {E : Ev} {l : Launch} {n : Nat} {R : MR} (hn : 349 ≤ n) (hG : GRm R) {I : MI} {L : ML} {v1 : Int32} {Q : Int32 → Prop} (h : wp_X10_waits I v1 Q) : MX E l rm_X10_waits yX10_waits cX10_waits 2 (some .int) [.ref 336, .int v1] n I L R (Qi n R (P00 I L Q)) := by
  refine MX_of (ls := [(0, .ref 336), (1, .int v1)]) (by decide) (Nat.le_of_ble_eq_true rfl) rfl ?_
  unfold wp_X10_waits at h
  refine x_iload_n dX10_waits_0 rfl ?_
  refine x_iconst (v := 0) dX10_waits_1 ki_0 ?_
  refine x_aload_n dX10_waits_2 rfl ?_
  refine x_getr (j := 337) dX10_waits_3 fk_RX10_7 (km rfl hn) sh_336 (rt_336_1 hG) ?_
  refine x_bipush (v := 17) dX10_waits_6 kb_17 ?_
  obtain ⟨b1, h⟩ := h
  refine x_iaload dX10_waits_8 (km rfl hn) sh_337 b1 ?_
  refine x_iconst (v := 1) dX10_waits_9 ki_1 ?_
  refine x_isub dX10_waits_10 ?_
  refine x_cSi00 [.int v1, .int 0, .int ((I 337 (ix 17)) - 1)] (mt_X10_isIn hn hG h) dX10_waits_11 lk_RX10_51 rfl rfl (Nat.le_of_ble_eq_true rfl) (Rf_of rfl) (fun x2 h => ?_)
  refine x_if_eq dX10_waits_14 (tgt := 30) rfl ⟨fun c3 => ?_, fun c3 => ?_⟩
  · have h := h.1 c3
    refine x_iconst (v := (-1)) dX10_waits_30 ki_m1 ?_
    exact x_ireturn dX10_waits_31 ⟨_, rfl, rfl, rfl, rfl, rfl, h⟩
  · have h := h.2 c3
    refine x_aload_n dX10_waits_17 rfl ?_
    refine x_getr (j := 337) dX10_waits_18 fk_RX10_7 (km rfl hn) sh_336 (rt_336_1 hG) ?_
    refine x_sipush (v := 2012) dX10_waits_21 ks_2012 ?_
    refine x_iload_n dX10_waits_24 rfl ?_
    refine x_iadd dX10_waits_25 ?_
    obtain ⟨b4, h⟩ := h
    refine x_iaload dX10_waits_26 (km rfl hn) sh_337 b4 ?_
    refine x_goto dX10_waits_27 (tgt := 31) rfl ?_
    exact x_ireturn dX10_waits_31 ⟨_, rfl, rfl, rfl, rfl, rfl, h⟩
abbrev rm_X10_want : Room := { frames := 1, cells := 0, slots := 0, locals := 22 }
def wp_X10_want (I : MI) (v1 : Int32) (v2 : Int32) (Q : Int32 → Prop) : Prop :=
    (vp_in 14 2212 ∧ (wp_X10_isIn v1 0 ((I 337 (ix 14)) - 1) (fun x2 => (((x2 = 0 → Q (-1)) ∧ (¬ x2 = 0 → (wp_X10_isIn v2 0 3 (fun x4 => (((x4 = 0 → Q (-1)) ∧ (¬ x4 = 0 → (vp_in ((92 + (4 * v1)) + v2) 2212 ∧ Q (I 337 (ix ((92 + (4 * v1)) + v2)))))))))))))))
set_option maxRecDepth 20000 in
theorem mt_X10_want {E : Ev} {l : Launch} {n : Nat} {R : MR} (hn : 349 ≤ n) (hG : GRm R) {I : MI} {L : ML} {v1 : Int32} {v2 : Int32} {Q : Int32 → Prop} (h : wp_X10_want I v1 v2 Q) : MX E l rm_X10_want yX10_want cX10_want 3 (some .int) [.ref 336, .int v1, .int v2] n I L R (Qi n R (P00 I L Q)) := by
  refine MX_of (ls := [(0, .ref 336), (1, .int v1), (2, .int v2)]) (by decide) (Nat.le_of_ble_eq_true rfl) rfl ?_
  unfold wp_X10_want at h
  refine x_iload_n dX10_want_0 rfl ?_
  refine x_iconst (v := 0) dX10_want_1 ki_0 ?_
  refine x_aload_n dX10_want_2 rfl ?_
  refine x_getr (j := 337) dX10_want_3 fk_RX10_7 (km rfl hn) sh_336 (rt_336_1 hG) ?_
  refine x_bipush (v := 14) dX10_want_6 kb_14 ?_
  obtain ⟨b1, h⟩ := h
  refine x_iaload dX10_want_8 (km rfl hn) sh_337 b1 ?_
  refine x_iconst (v := 1) dX10_want_9 ki_1 ?_
  refine x_isub dX10_want_10 ?_
  refine x_cSi00 [.int v1, .int 0, .int ((I 337 (ix 14)) - 1)] (mt_X10_isIn hn hG h) dX10_want_11 lk_RX10_51 rfl rfl (Nat.le_of_ble_eq_true rfl) (Rf_of rfl) (fun x2 h => ?_)
  refine x_if_eq dX10_want_14 (tgt := 42) rfl ⟨fun c3 => ?_, fun c3 => ?_⟩
  · have h := h.1 c3
    refine x_iconst (v := (-1)) dX10_want_42 ki_m1 ?_
    exact x_ireturn dX10_want_43 ⟨_, rfl, rfl, rfl, rfl, rfl, h⟩
  · have h := h.2 c3
    refine x_iload_n dX10_want_17 rfl ?_
    refine x_iconst (v := 0) dX10_want_18 ki_0 ?_
    refine x_iconst (v := 3) dX10_want_19 ki_3 ?_
    refine x_cSi00 [.int v2, .int 0, .int 3] (mt_X10_isIn hn hG h) dX10_want_20 lk_RX10_51 rfl rfl (Nat.le_of_ble_eq_true rfl) (Rf_of rfl) (fun x4 h => ?_)
    refine x_if_eq dX10_want_23 (tgt := 42) rfl ⟨fun c5 => ?_, fun c5 => ?_⟩
    · have h := h.1 c5
      refine x_iconst (v := (-1)) dX10_want_42 ki_m1 ?_
      exact x_ireturn dX10_want_43 ⟨_, rfl, rfl, rfl, rfl, rfl, h⟩
    · have h := h.2 c5
      refine x_aload_n dX10_want_26 rfl ?_
      refine x_getr (j := 337) dX10_want_27 fk_RX10_7 (km rfl hn) sh_336 (rt_336_1 hG) ?_
      refine x_bipush (v := 92) dX10_want_30 kb_92 ?_
      refine x_iconst (v := 4) dX10_want_32 ki_4 ?_
      refine x_iload_n dX10_want_33 rfl ?_
      refine x_imul dX10_want_34 ?_
      refine x_iadd dX10_want_35 ?_
      refine x_iload_n dX10_want_36 rfl ?_
      refine x_iadd dX10_want_37 ?_
      obtain ⟨b6, h⟩ := h
      refine x_iaload dX10_want_38 (km rfl hn) sh_337 b6 ?_
      refine x_goto dX10_want_39 (tgt := 43) rfl ?_
      exact x_ireturn dX10_want_43 ⟨_, rfl, rfl, rfl, rfl, rfl, h⟩
abbrev rm_X10_way : Room := { frames := 1, cells := 0, slots := 0, locals := 22 }
def jn_X10_way_140 (v5 : Int32) (s0 : Int32) (s1 : Int32) (kj47 : Int32 → Int32 → Prop) : Prop :=
    kj47 (s1 + s0) (v5 + 1)
set_option maxRecDepth 20000 in
theorem jnt_X10_way_140 {E : Ev} {l : Launch} {n : Nat} {R : MR} (hn : 349 ≤ n) (hG : GRm R) {Q : Int32 → Prop} {I : MI} {L : ML} {v1 : Int32} {v2 : Int32} {v3 : Int32} {v5 : Int32} {s0 : Int32} {s1 : Int32} {kj47 : Int32 → Int32 → Prop}
    (hJ47 : ∀ (v4 : Int32) (v5 : Int32), kj47 v4 v5 → X E l rm_X10_way yX10_way cX10_way 7 (some .int) noX (ZM E rm_X10_way (Qi n R (P00 I L Q))) 47 [(0, .ref 336), (1, .int v1), (2, .int v2), (3, .int v3), (4, .int v4), (5, .int v5)] [] n I L R 0 0) (h : jn_X10_way_140 v5 s0 s1 kj47) : X E l rm_X10_way yX10_way cX10_way 7 (some .int) noX (ZM E rm_X10_way (Qi n R (P00 I L Q))) 140 [(0, .ref 336), (1, .int v1), (2, .int v2), (3, .int v3), (5, .int v5)] [.int s0, .int s1] n I L R 0 0 := by
  unfold jn_X10_way_140 at h
  refine x_iadd dX10_way_140 ?_
  refine x_istore (ls' := [(4, .int (s1 + s0)), (0, .ref 336), (1, .int v1), (2, .int v2), (3, .int v3), (5, .int v5)]) dX10_way_141 (Nat.le_of_ble_eq_true rfl) rfl ?_
  refine x_iinc (v := v5 + 1) (ls' := [(5, .int (v5 + 1)), (4, .int (s1 + s0)), (0, .ref 336), (1, .int v1), (2, .int v2), (3, .int v3)]) dX10_way_143 rfl (congrArg (_ + ·) ki_1) (Nat.le_of_ble_eq_true rfl) rfl ?_
  refine x_goto dX10_way_146 (tgt := 47) rfl ?_
  refine x_ls (ls' := [(0, .ref 336), (1, .int v1), (2, .int v2), (3, .int v3), (4, .int (s1 + s0)), (5, .int (v5 + 1))]) [2, 3, 4, 5, 1, 0] rfl ?_
  exact hJ47 (s1 + s0) (v5 + 1) h
def jn_X10_way_135 (v5 : Int32) (s0 : Int32) (kj47 : Int32 → Int32 → Prop) : Prop :=
    (jn_X10_way_140 v5 1 s0 (fun x13 x14 => kj47 x13 x14))
set_option maxRecDepth 20000 in
theorem jnt_X10_way_135 {E : Ev} {l : Launch} {n : Nat} {R : MR} (hn : 349 ≤ n) (hG : GRm R) {Q : Int32 → Prop} {I : MI} {L : ML} {v1 : Int32} {v2 : Int32} {v3 : Int32} {v5 : Int32} {s0 : Int32} {kj47 : Int32 → Int32 → Prop}
    (hJ47 : ∀ (v4 : Int32) (v5 : Int32), kj47 v4 v5 → X E l rm_X10_way yX10_way cX10_way 7 (some .int) noX (ZM E rm_X10_way (Qi n R (P00 I L Q))) 47 [(0, .ref 336), (1, .int v1), (2, .int v2), (3, .int v3), (4, .int v4), (5, .int v5)] [] n I L R 0 0) (h : jn_X10_way_135 v5 s0 kj47) : X E l rm_X10_way yX10_way cX10_way 7 (some .int) noX (ZM E rm_X10_way (Qi n R (P00 I L Q))) 135 [(0, .ref 336), (1, .int v1), (2, .int v2), (3, .int v3), (5, .int v5)] [.int s0] n I L R 0 0 := by
  unfold jn_X10_way_135 at h
  refine x_iconst (v := 1) dX10_way_135 ki_1 ?_
  refine x_goto dX10_way_136 (tgt := 140) rfl ?_
  refine jnt_X10_way_140 hn hG (fun x13 x14 h => ?_) h
  exact hJ47 x13 x14 h
def jn_X10_way_139 (v5 : Int32) (s0 : Int32) (kj47 : Int32 → Int32 → Prop) : Prop :=
    (jn_X10_way_140 v5 0 s0 (fun x18 x19 => kj47 x18 x19))
set_option maxRecDepth 20000 in
theorem jnt_X10_way_139 {E : Ev} {l : Launch} {n : Nat} {R : MR} (hn : 349 ≤ n) (hG : GRm R) {Q : Int32 → Prop} {I : MI} {L : ML} {v1 : Int32} {v2 : Int32} {v3 : Int32} {v5 : Int32} {s0 : Int32} {kj47 : Int32 → Int32 → Prop}
    (hJ47 : ∀ (v4 : Int32) (v5 : Int32), kj47 v4 v5 → X E l rm_X10_way yX10_way cX10_way 7 (some .int) noX (ZM E rm_X10_way (Qi n R (P00 I L Q))) 47 [(0, .ref 336), (1, .int v1), (2, .int v2), (3, .int v3), (4, .int v4), (5, .int v5)] [] n I L R 0 0) (h : jn_X10_way_139 v5 s0 kj47) : X E l rm_X10_way yX10_way cX10_way 7 (some .int) noX (ZM E rm_X10_way (Qi n R (P00 I L Q))) 139 [(0, .ref 336), (1, .int v1), (2, .int v2), (3, .int v3), (5, .int v5)] [.int s0] n I L R 0 0 := by
  unfold jn_X10_way_139 at h
  refine x_iconst (v := 0) dX10_way_139 ki_0 ?_
  refine jnt_X10_way_140 hn hG (fun x18 x19 h => ?_) h
  exact hJ47 x18 x19 h
def lp_X10_way_47 (I : MI) (v3 : Int32) (kf149 : Int32 → Prop) : Nat → Int32 → Int32 → Prop
  | 0, _, _ => False
  | n + 1, v4, v5 =>
    (vp_in 16 2212 ∧ (((I 337 (ix 16)) ≤ v5 → kf149 v4) ∧ (¬ (I 337 (ix 16)) ≤ v5 → (vp_in ((1012 + (5 * v5)) + 4) 2212 ∧ (vp_in ((1012 + (5 * v3)) + 4) 2212 ∧ ((((I 337 (ix ((1012 + (5 * v5)) + 4))) - (I 337 (ix ((1012 + (5 * v3)) + 4)))) < 0 → (jn_X10_way_135 v5 v4 (fun x15 x16 => (lp_X10_way_47 I v3 kf149 n x15 x16)))) ∧ (¬ ((I 337 (ix ((1012 + (5 * v5)) + 4))) - (I 337 (ix ((1012 + (5 * v3)) + 4)))) < 0 → ((¬ ((I 337 (ix ((1012 + (5 * v5)) + 4))) - (I 337 (ix ((1012 + (5 * v3)) + 4)))) = 0 → (jn_X10_way_139 v5 v4 (fun x20 x21 => (lp_X10_way_47 I v3 kf149 n x20 x21)))) ∧ (((I 337 (ix ((1012 + (5 * v5)) + 4))) - (I 337 (ix ((1012 + (5 * v3)) + 4)))) = 0 → (vp_in ((1012 + (5 * v5)) + 1) 2212 ∧ (vp_in ((1012 + (5 * v3)) + 1) 2212 ∧ (((I 337 (ix ((1012 + (5 * v3)) + 1))) ≤ (I 337 (ix ((1012 + (5 * v5)) + 1))) → (jn_X10_way_139 v5 v4 (fun x25 x26 => (lp_X10_way_47 I v3 kf149 n x25 x26)))) ∧ (¬ (I 337 (ix ((1012 + (5 * v3)) + 1))) ≤ (I 337 (ix ((1012 + (5 * v5)) + 1))) → (jn_X10_way_135 v5 v4 (fun x27 x28 => (lp_X10_way_47 I v3 kf149 n x27 x28))))))))))))))))
set_option maxRecDepth 20000 in
theorem lpt_X10_way_47 {E : Ev} {l : Launch} {n : Nat} {R : MR} (hn : 349 ≤ n) (hG : GRm R) {Q : Int32 → Prop} {v1 : Int32} {v2 : Int32} {v3 : Int32} {I : MI} {L : ML} {kf149 : Int32 → Prop}
    (hK149 : ∀ (v4 : Int32), kf149 v4 → X E l rm_X10_way yX10_way cX10_way 7 (some .int) noX (ZM E rm_X10_way (Qi n R (P00 I L Q))) 149 [(0, .ref 336), (1, .int v1), (2, .int v2), (3, .int v3), (4, .int v4)] [] n I L R 0 0) : ∀ (N : Nat) (v4 : Int32) (v5 : Int32), lp_X10_way_47 I v3 kf149 N v4 v5 → X E l rm_X10_way yX10_way cX10_way 7 (some .int) noX (ZM E rm_X10_way (Qi n R (P00 I L Q))) 47 [(0, .ref 336), (1, .int v1), (2, .int v2), (3, .int v3), (4, .int v4), (5, .int v5)] [] n I L R 0 0 := by
  intro N
  induction N with
  | zero => intro v4 v5 h; exact False.elim h
  | succ N ih =>
    intro v4 v5 h
    unfold lp_X10_way_47 at h
    refine x_iload dX10_way_47 rfl ?_
    refine x_aload_n dX10_way_49 rfl ?_
    refine x_getr (j := 337) dX10_way_50 fk_RX10_7 (km rfl hn) sh_336 (rt_336_1 hG) ?_
    refine x_bipush (v := 16) dX10_way_53 kb_16 ?_
    obtain ⟨b8, h⟩ := h
    refine x_iaload dX10_way_55 (km rfl hn) sh_337 b8 ?_
    refine x_icmp_ge dX10_way_56 (tgt := 149) rfl ⟨fun c9 => ?_, fun c9 => ?_⟩
    · have h := h.1 c9
      refine x_ls (ls' := [(0, .ref 336), (1, .int v1), (2, .int v2), (3, .int v3), (4, .int v4)]) [0, 1, 2, 3, 4] rfl ?_
      exact hK149 v4 h
    · have h := h.2 c9
      refine x_aload_n dX10_way_59 rfl ?_
      refine x_getr (j := 337) dX10_way_60 fk_RX10_7 (km rfl hn) sh_336 (rt_336_1 hG) ?_
      refine x_sipush (v := 1012) dX10_way_63 ks_1012 ?_
      refine x_iconst (v := 5) dX10_way_66 ki_5 ?_
      refine x_iload dX10_way_67 rfl ?_
      refine x_imul dX10_way_69 ?_
      refine x_iadd dX10_way_70 ?_
      refine x_iconst (v := 4) dX10_way_71 ki_4 ?_
      refine x_iadd dX10_way_72 ?_
      obtain ⟨b10, h⟩ := h
      refine x_iaload dX10_way_73 (km rfl hn) sh_337 b10 ?_
      refine x_aload_n dX10_way_74 rfl ?_
      refine x_getr (j := 337) dX10_way_75 fk_RX10_7 (km rfl hn) sh_336 (rt_336_1 hG) ?_
      refine x_sipush (v := 1012) dX10_way_78 ks_1012 ?_
      refine x_iconst (v := 5) dX10_way_81 ki_5 ?_
      refine x_iload_n dX10_way_82 rfl ?_
      refine x_imul dX10_way_83 ?_
      refine x_iadd dX10_way_84 ?_
      refine x_iconst (v := 4) dX10_way_85 ki_4 ?_
      refine x_iadd dX10_way_86 ?_
      obtain ⟨b11, h⟩ := h
      refine x_iaload dX10_way_87 (km rfl hn) sh_337 b11 ?_
      refine x_isub dX10_way_88 ?_
      refine x_istore (ls' := [(6, .int ((I 337 (ix ((1012 + (5 * v5)) + 4))) - (I 337 (ix ((1012 + (5 * v3)) + 4))))), (0, .ref 336), (1, .int v1), (2, .int v2), (3, .int v3), (4, .int v4), (5, .int v5)]) dX10_way_89 (Nat.le_of_ble_eq_true rfl) rfl ?_
      refine x_iload dX10_way_91 rfl ?_
      refine x_iload dX10_way_93 rfl ?_
      refine x_if_lt dX10_way_95 (tgt := 135) rfl ⟨fun c12 => ?_, fun c12 => ?_⟩
      · have h := h.1 c12
        refine x_ls (ls' := [(0, .ref 336), (1, .int v1), (2, .int v2), (3, .int v3), (5, .int v5)]) [1, 2, 3, 4, 6] rfl ?_
        refine jnt_X10_way_135 hn hG (fun x15 x16 h => ?_) h
        exact ih x15 x16 h
      · have h := h.2 c12
        refine x_iload dX10_way_98 rfl ?_
        refine x_if_ne dX10_way_100 (tgt := 139) rfl ⟨fun c17 => ?_, fun c17 => ?_⟩
        · have h := h.1 c17
          refine x_ls (ls' := [(0, .ref 336), (1, .int v1), (2, .int v2), (3, .int v3), (5, .int v5)]) [1, 2, 3, 4, 6] rfl ?_
          refine jnt_X10_way_139 hn hG (fun x20 x21 h => ?_) h
          exact ih x20 x21 h
        · have h := h.2 c17
          refine x_aload_n dX10_way_103 rfl ?_
          refine x_getr (j := 337) dX10_way_104 fk_RX10_7 (km rfl hn) sh_336 (rt_336_1 hG) ?_
          refine x_sipush (v := 1012) dX10_way_107 ks_1012 ?_
          refine x_iconst (v := 5) dX10_way_110 ki_5 ?_
          refine x_iload dX10_way_111 rfl ?_
          refine x_imul dX10_way_113 ?_
          refine x_iadd dX10_way_114 ?_
          refine x_iconst (v := 1) dX10_way_115 ki_1 ?_
          refine x_iadd dX10_way_116 ?_
          obtain ⟨b22, h⟩ := h
          refine x_iaload dX10_way_117 (km rfl hn) sh_337 b22 ?_
          refine x_aload_n dX10_way_118 rfl ?_
          refine x_getr (j := 337) dX10_way_119 fk_RX10_7 (km rfl hn) sh_336 (rt_336_1 hG) ?_
          refine x_sipush (v := 1012) dX10_way_122 ks_1012 ?_
          refine x_iconst (v := 5) dX10_way_125 ki_5 ?_
          refine x_iload_n dX10_way_126 rfl ?_
          refine x_imul dX10_way_127 ?_
          refine x_iadd dX10_way_128 ?_
          refine x_iconst (v := 1) dX10_way_129 ki_1 ?_
          refine x_iadd dX10_way_130 ?_
          obtain ⟨b23, h⟩ := h
          refine x_iaload dX10_way_131 (km rfl hn) sh_337 b23 ?_
          refine x_icmp_ge dX10_way_132 (tgt := 139) rfl ⟨fun c24 => ?_, fun c24 => ?_⟩
          · have h := h.1 c24
            refine x_ls (ls' := [(0, .ref 336), (1, .int v1), (2, .int v2), (3, .int v3), (5, .int v5)]) [1, 2, 3, 4, 6] rfl ?_
            refine jnt_X10_way_139 hn hG (fun x25 x26 h => ?_) h
            exact ih x25 x26 h
          · have h := h.2 c24
            refine x_ls (ls' := [(0, .ref 336), (1, .int v1), (2, .int v2), (3, .int v3), (5, .int v5)]) [1, 2, 3, 4, 6] rfl ?_
            refine jnt_X10_way_135 hn hG (fun x27 x28 h => ?_) h
            exact ih x27 x28 h
def lp_X10_way_30 (I : MI) (v1 : Int32) (Q : Int32 → Prop) (kf155 : Int32 → Prop) : Nat → Int32 → Prop
  | 0, _ => False
  | n + 1, v3 =>
    (vp_in 16 2212 ∧ (((I 337 (ix 16)) ≤ v3 → Q (-1)) ∧ (¬ (I 337 (ix 16)) ≤ v3 → (∃ N29, lp_X10_way_47 I v3 (fun x30 => ((¬ x30 = v1 → (lp_X10_way_30 I v1 Q kf155 n (v3 + 1))) ∧ (x30 = v1 → kf155 v3))) N29 0 0))))
set_option maxRecDepth 20000 in
theorem lpt_X10_way_30 {E : Ev} {l : Launch} {n : Nat} {R : MR} (hn : 349 ≤ n) (hG : GRm R) {Q : Int32 → Prop} {v1 : Int32} {v2 : Int32} {I : MI} {L : ML} {kf155 : Int32 → Prop}
    (hK155 : ∀ (v3 : Int32), kf155 v3 → X E l rm_X10_way yX10_way cX10_way 7 (some .int) noX (ZM E rm_X10_way (Qi n R (P00 I L Q))) 155 [(0, .ref 336), (2, .int v2), (3, .int v3)] [] n I L R 0 0) : ∀ (N : Nat) (v3 : Int32), lp_X10_way_30 I v1 Q kf155 N v3 → X E l rm_X10_way yX10_way cX10_way 7 (some .int) noX (ZM E rm_X10_way (Qi n R (P00 I L Q))) 30 [(0, .ref 336), (1, .int v1), (2, .int v2), (3, .int v3)] [] n I L R 0 0 := by
  intro N
  induction N with
  | zero => intro v3 h; exact False.elim h
  | succ N ih =>
    intro v3 h
    unfold lp_X10_way_30 at h
    refine x_iload_n dX10_way_30 rfl ?_
    refine x_aload_n dX10_way_31 rfl ?_
    refine x_getr (j := 337) dX10_way_32 fk_RX10_7 (km rfl hn) sh_336 (rt_336_1 hG) ?_
    refine x_bipush (v := 16) dX10_way_35 kb_16 ?_
    obtain ⟨b6, h⟩ := h
    refine x_iaload dX10_way_37 (km rfl hn) sh_337 b6 ?_
    refine x_icmp_ge dX10_way_38 (tgt := 176) rfl ⟨fun c7 => ?_, fun c7 => ?_⟩
    · have h := h.1 c7
      refine x_iconst (v := (-1)) dX10_way_176 ki_m1 ?_
      exact x_ireturn dX10_way_177 ⟨_, rfl, rfl, rfl, rfl, rfl, h⟩
    · have h := h.2 c7
      refine x_iconst (v := 0) dX10_way_41 ki_0 ?_
      refine x_istore (ls' := [(4, .int 0), (0, .ref 336), (1, .int v1), (2, .int v2), (3, .int v3)]) dX10_way_42 (Nat.le_of_ble_eq_true rfl) rfl ?_
      refine x_iconst (v := 0) dX10_way_44 ki_0 ?_
      refine x_istore (ls' := [(5, .int 0), (4, .int 0), (0, .ref 336), (1, .int v1), (2, .int v2), (3, .int v3)]) dX10_way_45 (Nat.le_of_ble_eq_true rfl) rfl ?_
      refine x_ls (ls' := [(0, .ref 336), (1, .int v1), (2, .int v2), (3, .int v3), (4, .int 0), (5, .int 0)]) [2, 3, 4, 5, 1, 0] rfl ?_
      obtain ⟨N29, h⟩ := h
      refine lpt_X10_way_47 hn hG (fun x30 h => ?_) N29 0 0 h
      refine x_iload dX10_way_149 rfl ?_
      refine x_iload_n dX10_way_151 rfl ?_
      refine x_icmp_ne dX10_way_152 (tgt := 170) rfl ⟨fun c31 => ?_, fun c31 => ?_⟩
      · have h := h.1 c31
        refine x_iinc (v := v3 + 1) (ls' := [(3, .int (v3 + 1)), (0, .ref 336), (1, .int v1), (2, .int v2), (4, .int x30)]) dX10_way_170 rfl (congrArg (_ + ·) ki_1) (Nat.le_of_ble_eq_true rfl) rfl ?_
        refine x_goto dX10_way_173 (tgt := 30) rfl ?_
        refine x_ls (ls' := [(0, .ref 336), (1, .int v1), (2, .int v2), (3, .int (v3 + 1))]) [1, 2, 3, 0] rfl ?_
        exact ih (v3 + 1) h
      · have h := h.2 c31
        refine x_ls (ls' := [(0, .ref 336), (2, .int v2), (3, .int v3)]) [0, 2, 3] rfl ?_
        exact hK155 v3 h
def wp_X10_way (I : MI) (v1 : Int32) (v2 : Int32) (Q : Int32 → Prop) : Prop :=
    (vp_in 16 2212 ∧ (wp_X10_isIn v1 0 ((I 337 (ix 16)) - 1) (fun x2 => (((x2 = 0 → Q (-1)) ∧ (¬ x2 = 0 → (wp_X10_isIn v2 0 4 (fun x4 => (((¬ x4 = 0 → (∃ N32, lp_X10_way_30 I v1 Q (fun x33 => (vp_in ((1012 + (5 * x33)) + v2) 2212 ∧ Q (I 337 (ix ((1012 + (5 * x33)) + v2))))) N32 0)) ∧ (x4 = 0 → Q (-1))))))))))))
set_option maxRecDepth 20000 in
theorem mt_X10_way {E : Ev} {l : Launch} {n : Nat} {R : MR} (hn : 349 ≤ n) (hG : GRm R) {I : MI} {L : ML} {v1 : Int32} {v2 : Int32} {Q : Int32 → Prop} (h : wp_X10_way I v1 v2 Q) : MX E l rm_X10_way yX10_way cX10_way 7 (some .int) [.ref 336, .int v1, .int v2] n I L R (Qi n R (P00 I L Q)) := by
  refine MX_of (ls := [(0, .ref 336), (1, .int v1), (2, .int v2)]) (by decide) (Nat.le_of_ble_eq_true rfl) rfl ?_
  unfold wp_X10_way at h
  refine x_iload_n dX10_way_0 rfl ?_
  refine x_iconst (v := 0) dX10_way_1 ki_0 ?_
  refine x_aload_n dX10_way_2 rfl ?_
  refine x_getr (j := 337) dX10_way_3 fk_RX10_7 (km rfl hn) sh_336 (rt_336_1 hG) ?_
  refine x_bipush (v := 16) dX10_way_6 kb_16 ?_
  obtain ⟨b1, h⟩ := h
  refine x_iaload dX10_way_8 (km rfl hn) sh_337 b1 ?_
  refine x_iconst (v := 1) dX10_way_9 ki_1 ?_
  refine x_isub dX10_way_10 ?_
  refine x_cSi00 [.int v1, .int 0, .int ((I 337 (ix 16)) - 1)] (mt_X10_isIn hn hG h) dX10_way_11 lk_RX10_51 rfl rfl (Nat.le_of_ble_eq_true rfl) (Rf_of rfl) (fun x2 h => ?_)
  refine x_if_eq dX10_way_14 (tgt := 26) rfl ⟨fun c3 => ?_, fun c3 => ?_⟩
  · have h := h.1 c3
    refine x_iconst (v := (-1)) dX10_way_26 ki_m1 ?_
    exact x_ireturn dX10_way_27 ⟨_, rfl, rfl, rfl, rfl, rfl, h⟩
  · have h := h.2 c3
    refine x_iload_n dX10_way_17 rfl ?_
    refine x_iconst (v := 0) dX10_way_18 ki_0 ?_
    refine x_iconst (v := 4) dX10_way_19 ki_4 ?_
    refine x_cSi00 [.int v2, .int 0, .int 4] (mt_X10_isIn hn hG h) dX10_way_20 lk_RX10_51 rfl rfl (Nat.le_of_ble_eq_true rfl) (Rf_of rfl) (fun x4 h => ?_)
    refine x_if_ne dX10_way_23 (tgt := 28) rfl ⟨fun c5 => ?_, fun c5 => ?_⟩
    · have h := h.1 c5
      refine x_iconst (v := 0) dX10_way_28 ki_0 ?_
      refine x_istore_n (ls' := [(3, .int 0), (0, .ref 336), (1, .int v1), (2, .int v2)]) dX10_way_29 (Nat.le_of_ble_eq_true rfl) rfl ?_
      refine x_ls (ls' := [(0, .ref 336), (1, .int v1), (2, .int v2), (3, .int 0)]) [1, 2, 3, 0] rfl ?_
      obtain ⟨N32, h⟩ := h
      refine lpt_X10_way_30 hn hG (fun x33 h => ?_) N32 0 h
      refine x_aload_n dX10_way_155 rfl ?_
      refine x_getr (j := 337) dX10_way_156 fk_RX10_7 (km rfl hn) sh_336 (rt_336_1 hG) ?_
      refine x_sipush (v := 1012) dX10_way_159 ks_1012 ?_
      refine x_iconst (v := 5) dX10_way_162 ki_5 ?_
      refine x_iload_n dX10_way_163 rfl ?_
      refine x_imul dX10_way_164 ?_
      refine x_iadd dX10_way_165 ?_
      refine x_iload_n dX10_way_166 rfl ?_
      refine x_iadd dX10_way_167 ?_
      obtain ⟨b34, h⟩ := h
      refine x_iaload dX10_way_168 (km rfl hn) sh_337 b34 ?_
      exact x_ireturn dX10_way_169 ⟨_, rfl, rfl, rfl, rfl, rfl, h⟩
    · have h := h.2 c5
      refine x_iconst (v := (-1)) dX10_way_26 ki_m1 ?_
      exact x_ireturn dX10_way_27 ⟨_, rfl, rfl, rfl, rfl, rfl, h⟩
