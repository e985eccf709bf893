abbrev rm_X3_isOneTooMany : Room := { frames := 0, cells := 0, slots := 0, locals := 0 }
def jn_X3_isOneTooMany_16 (I : MI) (v1 : Int32) (Q : Int32 → Prop) : Prop :=
    ((¬ v1 = 4 → Q 0) ∧ (v1 = 4 → (((I 313 1) < 3 → Q 0) ∧ (¬ (I 313 1) < 3 → Q 1))))
set_option maxRecDepth 20000 in
theorem jnt_X3_isOneTooMany_16 {E : Ev} {l : Launch} {n : Nat} {R : MR} (hn : 336 ≤ n) (hG : GRx R) {Q : Int32 → Prop} {I : MI} {L : ML} {v1 : Int32} (h : jn_X3_isOneTooMany_16 I v1 Q) : X E l rm_X3_isOneTooMany yX3_isOneTooMany cX3_isOneTooMany 2 (some .boolean) noX (ZM E rm_X3_isOneTooMany (Qi n R (P00 I L Q))) 16 [(0, .ref 312), (1, .int v1)] [] n I L R 0 0 := by
  unfold jn_X3_isOneTooMany_16 at h
  refine x_iload_n dX3_isOneTooMany_16 rfl ?_
  refine x_iconst (v := 4) dX3_isOneTooMany_17 ki_4 ?_
  refine x_icmp_ne dX3_isOneTooMany_18 (tgt := 36) rfl ⟨fun c2 => ?_, fun c2 => ?_⟩
  · have h := h.1 c2
    refine x_iconst (v := 0) dX3_isOneTooMany_36 ki_0 ?_
    exact x_zreturn dX3_isOneTooMany_37 rfl ⟨_, rfl, rfl, rfl, rfl, rfl, h⟩
  · have h := h.2 c2
    refine x_aload_n dX3_isOneTooMany_21 rfl ?_
    refine x_getr (j := 313) dX3_isOneTooMany_22 fk_RX3_12 (kl rfl hn) sh_312 (rt_312_0 hG) ?_
    refine x_geti dX3_isOneTooMany_25 fk_RX3_72 (Pn_k plan_313 hn 0 rfl) (Pn_s0 plan_313) ?_
    refine x_iconst (v := 3) dX3_isOneTooMany_28 ki_3 ?_
    refine x_icmp_lt dX3_isOneTooMany_29 (tgt := 36) rfl ⟨fun c3 => ?_, fun c3 => ?_⟩
    · have h := h.1 c3
      refine x_iconst (v := 0) dX3_isOneTooMany_36 ki_0 ?_
      exact x_zreturn dX3_isOneTooMany_37 rfl ⟨_, rfl, rfl, rfl, rfl, rfl, h⟩
    · have h := h.2 c3
      refine x_iconst (v := 1) dX3_isOneTooMany_32 ki_1 ?_
      refine x_goto dX3_isOneTooMany_33 (tgt := 37) rfl ?_
      exact x_zreturn dX3_isOneTooMany_37 rfl ⟨_, rfl, rfl, rfl, rfl, rfl, h⟩
def wp_X3_isOneTooMany (I : MI) (v1 : Int32) (Q : Int32 → Prop) : Prop :=
    ((¬ v1 = 3 → (jn_X3_isOneTooMany_16 I v1 Q)) ∧ (v1 = 3 → ((3 ≤ (I 313 0) → Q 1) ∧ (¬ 3 ≤ (I 313 0) → (jn_X3_isOneTooMany_16 I v1 Q)))))
set_option maxRecDepth 20000 in
theorem mt_X3_isOneTooMany {E : Ev} {l : Launch} {n : Nat} {R : MR} (hn : 336 ≤ n) (hG : GRx R) {I : MI} {L : ML} {v1 : Int32} {Q : Int32 → Prop} (h : wp_X3_isOneTooMany I v1 Q) : MX E l rm_X3_isOneTooMany yX3_isOneTooMany cX3_isOneTooMany 2 (some .boolean) [.ref 312, .int v1] n I L R (Qi n R (P00 I L Q)) := by
  refine MX_of (ls := [(0, .ref 312), (1, .int v1)]) (by decide) (Nat.le_of_ble_eq_true rfl) rfl ?_
  unfold wp_X3_isOneTooMany at h
  refine x_iload_n dX3_isOneTooMany_0 rfl ?_
  refine x_iconst (v := 3) dX3_isOneTooMany_1 ki_3 ?_
  refine x_icmp_ne dX3_isOneTooMany_2 (tgt := 16) rfl ⟨fun c1 => ?_, fun c1 => ?_⟩
  · have h := h.1 c1
    exact jnt_X3_isOneTooMany_16 hn hG  h
  · have h := h.2 c1
    refine x_aload_n dX3_isOneTooMany_5 rfl ?_
    refine x_getr (j := 313) dX3_isOneTooMany_6 fk_RX3_12 (kl rfl hn) sh_312 (rt_312_0 hG) ?_
    refine x_geti dX3_isOneTooMany_9 fk_RX3_69 (Pn_k plan_313 hn 0 rfl) (Pn_s0 plan_313) ?_
    refine x_iconst (v := 3) dX3_isOneTooMany_12 ki_3 ?_
    refine x_icmp_ge dX3_isOneTooMany_13 (tgt := 32) rfl ⟨fun c4 => ?_, fun c4 => ?_⟩
    · have h := h.1 c4
      refine x_iconst (v := 1) dX3_isOneTooMany_32 ki_1 ?_
      refine x_goto dX3_isOneTooMany_33 (tgt := 37) rfl ?_
      exact x_zreturn dX3_isOneTooMany_37 rfl ⟨_, rfl, rfl, rfl, rfl, rfl, h⟩
    · have h := h.2 c4
      exact jnt_X3_isOneTooMany_16 hn hG  h
abbrev rm_X3_isSpelled : Room := { frames := 4, cells := 0, slots := 0, locals := 85 }
def lp_X3_isSpelled_17 (I : MI) (v1 : Nat) (v2 : Int32) (Q : Int32 → Prop) : Nat → Int32 → Prop
  | 0, _ => False
  | n + 1, v3 =>
    (isTxt v1 ∧ (((nI (tLen v1)) ≤ v3 → Q 1) ∧ (¬ (nI (tLen v1)) ≤ v3 → (vp_in (v2 + v3) 400 ∧ (isTxt v1 ∧ (vp_in v3 (tLen v1) ∧ (((I 1 (ix (v2 + v3))) = (tAt v1 (ix v3)) → (lp_X3_isSpelled_17 I v1 v2 Q n (v3 + 1))) ∧ (¬ (I 1 (ix (v2 + v3))) = (tAt v1 (ix v3)) → Q 0))))))))
set_option maxRecDepth 20000 in
theorem lpt_X3_isSpelled_17 {E : Ev} {l : Launch} {n : Nat} {R : MR} (hn : 336 ≤ n) (hG : GRx R) (hB : R 312 2 = some 1) {Q : Int32 → Prop} {v1 : Nat} {v2 : Int32} {I : MI} {L : ML} : ∀ (N : Nat) (v3 : Int32), lp_X3_isSpelled_17 I v1 v2 Q N v3 → X E l rm_X3_isSpelled yX3_isSpelled cX3_isSpelled 4 (some .boolean) noX (ZM E rm_X3_isSpelled (Qi n R (P00 I L Q))) 17 [(0, .ref 312), (1, .ref v1), (2, .int v2), (3, .int v3)] [] n I L R 0 0 := by
  intro N
  induction N with
  | zero => intro v3 h; exact False.elim h
  | succ N ih =>
    intro v3 h
    unfold lp_X3_isSpelled_17 at h
    refine x_iload_n dX3_isSpelled_17 rfl ?_
    refine x_aload_n dX3_isSpelled_18 rfl ?_
    obtain ⟨b4, h⟩ := h
    refine x_cT [] (mt_len b4) dX3_isSpelled_19 lj_RX3_83 cal_J0_length_8abf5 ins_J0_length_8abf5 rfl b4 rfl rfl (Nat.le_of_ble_eq_true rfl) (Rf_of rfl) (fun x5 ex5 => ?_)
    subst ex5
    refine x_icmp_ge dX3_isSpelled_22 (tgt := 49) rfl ⟨fun c6 => ?_, fun c6 => ?_⟩
    · have h := h.1 c6
      refine x_iconst (v := 1) dX3_isSpelled_49 ki_1 ?_
      exact x_zreturn dX3_isSpelled_50 rfl ⟨_, rfl, rfl, rfl, rfl, rfl, h⟩
    · have h := h.2 c6
      refine x_aload_n dX3_isSpelled_25 rfl ?_
      refine x_getr (j := 1) dX3_isSpelled_26 fk_RX3_24 (kl rfl hn) sh_312 hB ?_
      refine x_iload_n dX3_isSpelled_29 rfl ?_
      refine x_iload_n dX3_isSpelled_30 rfl ?_
      refine x_iadd dX3_isSpelled_31 ?_
      obtain ⟨b7, h⟩ := h
      refine x_baload dX3_isSpelled_32 (kl rfl hn) sh_1 b7 ?_
      refine x_aload_n dX3_isSpelled_33 rfl ?_
      refine x_iload_n dX3_isSpelled_34 rfl ?_
      obtain ⟨b8, b9, h⟩ := h
      refine x_cT [.int v3] (mt_chat b8 b9) dX3_isSpelled_35 lj_RX3_87 cal_J0_charAt_5068e ins_J0_charAt_5068e rfl b8 rfl rfl (Nat.le_of_ble_eq_true rfl) (Rf_of rfl) (fun x10 ex10 => ?_)
      subst ex10
      refine x_icmp_eq dX3_isSpelled_38 (tgt := 43) rfl ⟨fun c11 => ?_, fun c11 => ?_⟩
      · have h := h.1 c11
        refine x_iinc (v := v3 + 1) (ls' := [(3, .int (v3 + 1)), (0, .ref 312), (1, .ref v1), (2, .int v2)]) dX3_isSpelled_43 rfl (congrArg (_ + ·) ki_1) (Nat.le_of_ble_eq_true rfl) rfl ?_
        refine x_goto dX3_isSpelled_46 (tgt := 17) rfl ?_
        refine x_ls (ls' := [(0, .ref 312), (1, .ref v1), (2, .int v2), (3, .int (v3 + 1))]) [1, 2, 3, 0] rfl ?_
        exact ih (v3 + 1) h
      · have h := h.2 c11
        refine x_iconst (v := 0) dX3_isSpelled_41 ki_0 ?_
        exact x_zreturn dX3_isSpelled_42 rfl ⟨_, rfl, rfl, rfl, rfl, rfl, h⟩
def wp_X3_isSpelled (I : MI) (v1 : Nat) (v2 : Int32) (Q : Int32 → Prop) : Prop :=
    (isTxt v1 ∧ ((((I 312 4) - v2) = (nI (tLen v1)) → (∃ N12, lp_X3_isSpelled_17 I v1 v2 Q N12 0)) ∧ (¬ ((I 312 4) - v2) = (nI (tLen v1)) → Q 0)))
set_option maxRecDepth 20000 in
theorem mt_X3_isSpelled {E : Ev} {l : Launch} {n : Nat} {R : MR} (hn : 336 ≤ n) (hG : GRx R) (hB : R 312 2 = some 1) {I : MI} {L : ML} {v1 : Nat} {v2 : Int32} {Q : Int32 → Prop} (h : wp_X3_isSpelled I v1 v2 Q) : MX E l rm_X3_isSpelled yX3_isSpelled cX3_isSpelled 4 (some .boolean) [.ref 312, .ref v1, .int v2] n I L R (Qi n R (P00 I L Q)) := by
  refine MX_of (ls := [(0, .ref 312), (1, .ref v1), (2, .int v2)]) (by decide) (Nat.le_of_ble_eq_true rfl) rfl ?_
  unfold wp_X3_isSpelled at h
  refine x_aload_n dX3_isSpelled_0 rfl ?_
  refine x_geti dX3_isSpelled_1 fk_RX3_32 (kl rfl hn) sh_312 ?_
  refine x_iload_n dX3_isSpelled_4 rfl ?_
  refine x_isub dX3_isSpelled_5 ?_
  refine x_aload_n dX3_isSpelled_6 rfl ?_
  obtain ⟨b1, h⟩ := h
  refine x_cT [] (mt_len b1) dX3_isSpelled_7 lj_RX3_83 cal_J0_length_8abf5 ins_J0_length_8abf5 rfl b1 rfl rfl (Nat.le_of_ble_eq_true rfl) (Rf_of rfl) (fun x2 ex2 => ?_)
  subst ex2
  refine x_icmp_eq dX3_isSpelled_10 (tgt := 15) rfl ⟨fun c3 => ?_, fun c3 => ?_⟩
  · have h := h.1 c3
    refine x_iconst (v := 0) dX3_isSpelled_15 ki_0 ?_
    refine x_istore_n (ls' := [(3, .int 0), (0, .ref 312), (1, .ref v1), (2, .int v2)]) dX3_isSpelled_16 (Nat.le_of_ble_eq_true rfl) rfl ?_
    refine x_ls (ls' := [(0, .ref 312), (1, .ref v1), (2, .int v2), (3, .int 0)]) [1, 2, 3, 0] rfl ?_
    obtain ⟨N12, h⟩ := h
    exact lpt_X3_isSpelled_17 hn hG hB  N12 0 h
  · have h := h.2 c3
    refine x_iconst (v := 0) dX3_isSpelled_13 ki_0 ?_
    exact x_zreturn dX3_isSpelled_14 rfl ⟨_, rfl, rfl, rfl, rfl, rfl, h⟩
abbrev rm_X3_skipGaps : Room := { frames := 0, cells := 0, slots := 0, locals := 0 }
def jn_X3_skipGaps_39 (I : MI) (kj0 : MI → Prop) : Prop :=
    (∀ I4, I4 = u2 I 312 4 ((I 312 4) + 1) → kj0 I4)
set_option maxRecDepth 20000 in
theorem jnt_X3_skipGaps_39 {E : Ev} {l : Launch} {n : Nat} {R : MR} (hn : 336 ≤ n) (hG : GRx R) (hB : R 312 2 = some 1) {I0 : MI} {Q : MI → Prop} {I : MI} {L : ML} {kj0 : MI → Prop}
    (hJ0 : ∀ (I : MI), kj0 I → X E l rm_X3_skipGaps yX3_skipGaps cX3_skipGaps 1 none noX (ZM E rm_X3_skipGaps (Qv n R (V10 I0 L Q))) 0 [(0, .ref 312)] [] n I L R 0 0) (h : jn_X3_skipGaps_39 I kj0) : X E l rm_X3_skipGaps yX3_skipGaps cX3_skipGaps 1 none noX (ZM E rm_X3_skipGaps (Qv n R (V10 I0 L Q))) 39 [(0, .ref 312)] [] n I L R 0 0 := by
  unfold jn_X3_skipGaps_39 at h
  refine x_aload_n dX3_skipGaps_39 rfl ?_
  refine x_dup dX3_skipGaps_40 rfl ?_
  refine x_geti dX3_skipGaps_41 fk_RX3_32 (kl rfl hn) sh_312 ?_
  refine x_iconst (v := 1) dX3_skipGaps_44 ki_1 ?_
  refine x_iadd dX3_skipGaps_45 ?_
  refine x_puti dX3_skipGaps_46 fk_RX3_32 fw_3_4 (vp_nar_int _) rfl (kl rfl hn) sh_312 (fun I4 eI4 => ?_)
  have h := h I4 eI4
  refine x_goto dX3_skipGaps_49 (tgt := 0) rfl ?_
  exact hJ0 I4 h
def lp_X3_skipGaps_0 (Q : MI → Prop) : Nat → MI → Prop
  | 0, _ => False
  | n + 1, I =>
    (((I 312 3) ≤ (I 312 4) → Q I) ∧ (¬ (I 312 3) ≤ (I 312 4) → (vp_in (I 312 4) 400 ∧ (((I 1 (ix (I 312 4))) = 32 → (jn_X3_skipGaps_39 I (fun I5 => (lp_X3_skipGaps_0 Q n I5)))) ∧ (¬ (I 1 (ix (I 312 4))) = 32 → (vp_in (I 312 4) 400 ∧ ((¬ (I 1 (ix (I 312 4))) = 10 → Q I) ∧ ((I 1 (ix (I 312 4))) = 10 → (jn_X3_skipGaps_39 I (fun I8 => (lp_X3_skipGaps_0 Q n I8)))))))))))
set_option maxRecDepth 20000 in
theorem lpt_X3_skipGaps_0 {E : Ev} {l : Launch} {n : Nat} {R : MR} (hn : 336 ≤ n) (hG : GRx R) (hB : R 312 2 = some 1) {I0 : MI} {Q : MI → Prop} {L : ML} : ∀ (N : Nat) (I : MI), lp_X3_skipGaps_0 Q N I → X E l rm_X3_skipGaps yX3_skipGaps cX3_skipGaps 1 none noX (ZM E rm_X3_skipGaps (Qv n R (V10 I0 L Q))) 0 [(0, .ref 312)] [] n I L R 0 0 := by
  intro N
  induction N with
  | zero => intro I h; exact False.elim h
  | succ N ih =>
    intro I h
    unfold lp_X3_skipGaps_0 at h
    refine x_aload_n dX3_skipGaps_0 rfl ?_
    refine x_geti dX3_skipGaps_1 fk_RX3_32 (kl rfl hn) sh_312 ?_
    refine x_aload_n dX3_skipGaps_4 rfl ?_
    refine x_geti dX3_skipGaps_5 fk_RX3_28 (kl rfl hn) sh_312 ?_
    refine x_icmp_ge dX3_skipGaps_8 (tgt := 52) rfl ⟨fun c1 => ?_, fun c1 => ?_⟩
    · have h := h.1 c1
      exact x_return dX3_skipGaps_52 ⟨rfl, rfl, rfl, rfl, h⟩
    · have h := h.2 c1
      refine x_aload_n dX3_skipGaps_11 rfl ?_
      refine x_getr (j := 1) dX3_skipGaps_12 fk_RX3_24 (kl rfl hn) sh_312 hB ?_
      refine x_aload_n dX3_skipGaps_15 rfl ?_
      refine x_geti dX3_skipGaps_16 fk_RX3_32 (kl rfl hn) sh_312 ?_
      obtain ⟨b2, h⟩ := h
      refine x_baload dX3_skipGaps_19 (kl rfl hn) sh_1 b2 ?_
      refine x_bipush (v := 32) dX3_skipGaps_20 kb_32 ?_
      refine x_icmp_eq dX3_skipGaps_22 (tgt := 39) rfl ⟨fun c3 => ?_, fun c3 => ?_⟩
      · have h := h.1 c3
        refine jnt_X3_skipGaps_39 hn hG hB (fun I5 h => ?_) h
        exact ih I5 h
      · have h := h.2 c3
        refine x_aload_n dX3_skipGaps_25 rfl ?_
        refine x_getr (j := 1) dX3_skipGaps_26 fk_RX3_24 (kl rfl hn) sh_312 hB ?_
        refine x_aload_n dX3_skipGaps_29 rfl ?_
        refine x_geti dX3_skipGaps_30 fk_RX3_32 (kl rfl hn) sh_312 ?_
        obtain ⟨b6, h⟩ := h
        refine x_baload dX3_skipGaps_33 (kl rfl hn) sh_1 b6 ?_
        refine x_bipush (v := 10) dX3_skipGaps_34 kb_10 ?_
        refine x_icmp_ne dX3_skipGaps_36 (tgt := 52) rfl ⟨fun c7 => ?_, fun c7 => ?_⟩
        · have h := h.1 c7
          exact x_return dX3_skipGaps_52 ⟨rfl, rfl, rfl, rfl, h⟩
        · have h := h.2 c7
          refine jnt_X3_skipGaps_39 hn hG hB (fun I8 h => ?_) h
          exact ih I8 h
def wp_X3_skipGaps (I : MI) (Q : MI → Prop) : Prop :=
    (∃ N9, lp_X3_skipGaps_0 Q N9 I)
set_option maxRecDepth 20000 in
theorem mt_X3_skipGaps {E : Ev} {l : Launch} {n : Nat} {R : MR} (hn : 336 ≤ n) (hG : GRx R) (hB : R 312 2 = some 1) {I : MI} {L : ML} {Q : MI → Prop} (h : wp_X3_skipGaps I Q) : MX E l rm_X3_skipGaps yX3_skipGaps cX3_skipGaps 1 none [.ref 312] n I L R (Qv n R (V10 I L Q)) := by
  refine MX_of (ls := [(0, .ref 312)]) (by decide) (Nat.le_of_ble_eq_true rfl) rfl ?_
  unfold wp_X3_skipGaps at h
  obtain ⟨N9, h⟩ := h
  exact lpt_X3_skipGaps_0 hn hG hB  N9 I h
abbrev rm_X3_readNumber : Room := { frames := 2, cells := 0, slots := 0, locals := 45 }
def lp_X3_readNumber_27 (kf99 : Int32 → MI → Prop) : Nat → Int32 → MI → Prop
  | 0, _, _ => False
  | n + 1, v5, I =>
    (((I 312 3) ≤ (I 312 4) → kf99 v5 I) ∧ (¬ (I 312 3) ≤ (I 312 4) → (vp_in (I 312 4) 400 ∧ (((I 1 (ix (I 312 4))) < 48 → kf99 v5 I) ∧ (¬ (I 1 (ix (I 312 4))) < 48 → (vp_in (I 312 4) 400 ∧ ((57 < (I 1 (ix (I 312 4))) → kf99 v5 I) ∧ (¬ 57 < (I 1 (ix (I 312 4))) → (vp_in (I 312 4) 400 ∧ (∀ I9, I9 = u2 I 312 4 ((I 312 4) + 1) → (lp_X3_readNumber_27 kf99 n ((v5 * 10) + ((I 1 (ix (I 312 4))) - 48)) I9)))))))))))
set_option maxRecDepth 20000 in
theorem lpt_X3_readNumber_27 {E : Ev} {l : Launch} {n : Nat} {R : MR} (hn : 336 ≤ n) (hG : GRx R) (hB : R 312 2 = some 1) {I0 : MI} {Q : Int32 → MI → Prop} {v1 : Int32} {v2 : Int32} {v4 : Int32} {L : ML} {kf99 : Int32 → MI → Prop}
    (hK99 : ∀ (v5 : Int32) (I : MI), kf99 v5 I → X E l rm_X3_readNumber yX3_readNumber cX3_readNumber 7 (some .int) noX (ZM E rm_X3_readNumber (Qi n R (P10 I0 L Q))) 99 [(0, .ref 312), (1, .int v1), (2, .int v2), (4, .int v4), (5, .int v5)] [] n I L R 0 0) : ∀ (N : Nat) (v5 : Int32) (I : MI), lp_X3_readNumber_27 kf99 N v5 I → X E l rm_X3_readNumber yX3_readNumber cX3_readNumber 7 (some .int) noX (ZM E rm_X3_readNumber (Qi n R (P10 I0 L Q))) 27 [(0, .ref 312), (1, .int v1), (2, .int v2), (4, .int v4), (5, .int v5)] [] n I L R 0 0 := by
  intro N
  induction N with
  | zero => intro v5 I h; exact False.elim h
  | succ N ih =>
    intro v5 I h
    unfold lp_X3_readNumber_27 at h
    refine x_aload_n dX3_readNumber_27 rfl ?_
    refine x_geti dX3_readNumber_28 fk_RX3_32 (kl rfl hn) sh_312 ?_
    refine x_aload_n dX3_readNumber_31 rfl ?_
    refine x_geti dX3_readNumber_32 fk_RX3_28 (kl rfl hn) sh_312 ?_
    refine x_icmp_ge dX3_readNumber_35 (tgt := 99) rfl ⟨fun c3 => ?_, fun c3 => ?_⟩
    · have h := h.1 c3
      exact hK99 v5 I h
    · have h := h.2 c3
      refine x_aload_n dX3_readNumber_38 rfl ?_
      refine x_getr (j := 1) dX3_readNumber_39 fk_RX3_24 (kl rfl hn) sh_312 hB ?_
      refine x_aload_n dX3_readNumber_42 rfl ?_
      refine x_geti dX3_readNumber_43 fk_RX3_32 (kl rfl hn) sh_312 ?_
      obtain ⟨b4, h⟩ := h
      refine x_baload dX3_readNumber_46 (kl rfl hn) sh_1 b4 ?_
      refine x_bipush (v := 48) dX3_readNumber_47 kb_48 ?_
      refine x_icmp_lt dX3_readNumber_49 (tgt := 99) rfl ⟨fun c5 => ?_, fun c5 => ?_⟩
      · have h := h.1 c5
        exact hK99 v5 I h
      · have h := h.2 c5
        refine x_aload_n dX3_readNumber_52 rfl ?_
        refine x_getr (j := 1) dX3_readNumber_53 fk_RX3_24 (kl rfl hn) sh_312 hB ?_
        refine x_aload_n dX3_readNumber_56 rfl ?_
        refine x_geti dX3_readNumber_57 fk_RX3_32 (kl rfl hn) sh_312 ?_
        obtain ⟨b6, h⟩ := h
        refine x_baload dX3_readNumber_60 (kl rfl hn) sh_1 b6 ?_
        refine x_bipush (v := 57) dX3_readNumber_61 kb_57 ?_
        refine x_icmp_gt dX3_readNumber_63 (tgt := 99) rfl ⟨fun c7 => ?_, fun c7 => ?_⟩
        · have h := h.1 c7
          exact hK99 v5 I h
        · have h := h.2 c7
          refine x_iload dX3_readNumber_66 rfl ?_
          refine x_bipush (v := 10) dX3_readNumber_68 kb_10 ?_
          refine x_imul dX3_readNumber_70 ?_
          refine x_aload_n dX3_readNumber_71 rfl ?_
          refine x_getr (j := 1) dX3_readNumber_72 fk_RX3_24 (kl rfl hn) sh_312 hB ?_
          refine x_aload_n dX3_readNumber_75 rfl ?_
          refine x_geti dX3_readNumber_76 fk_RX3_32 (kl rfl hn) sh_312 ?_
          obtain ⟨b8, h⟩ := h
          refine x_baload dX3_readNumber_79 (kl rfl hn) sh_1 b8 ?_
          refine x_bipush (v := 48) dX3_readNumber_80 kb_48 ?_
          refine x_isub dX3_readNumber_82 ?_
          refine x_iadd dX3_readNumber_83 ?_
          refine x_istore (ls' := [(5, .int ((v5 * 10) + ((I 1 (ix (I 312 4))) - 48))), (0, .ref 312), (1, .int v1), (2, .int v2), (4, .int v4)]) dX3_readNumber_84 (Nat.le_of_ble_eq_true rfl) rfl ?_
          refine x_aload_n dX3_readNumber_86 rfl ?_
          refine x_dup dX3_readNumber_87 rfl ?_
          refine x_geti dX3_readNumber_88 fk_RX3_32 (kl rfl hn) sh_312 ?_
          refine x_iconst (v := 1) dX3_readNumber_91 ki_1 ?_
          refine x_iadd dX3_readNumber_92 ?_
          refine x_puti dX3_readNumber_93 fk_RX3_32 fw_3_4 (vp_nar_int _) rfl (kl rfl hn) sh_312 (fun I9 eI9 => ?_)
          have h := h I9 eI9
          refine x_goto dX3_readNumber_96 (tgt := 27) rfl ?_
          refine x_ls (ls' := [(0, .ref 312), (1, .int v1), (2, .int v2), (4, .int v4), (5, .int ((v5 * 10) + ((I 1 (ix (I 312 4))) - 48)))]) [1, 2, 3, 4, 0] rfl ?_
          exact ih ((v5 * 10) + ((I 1 (ix (I 312 4))) - 48)) I9 h
def jn_X3_readNumber_99 (I : MI) (v1 : Int32) (v2 : Int32) (v4 : Int32) (v5 : Int32) (Q : Int32 → MI → Prop) : Prop :=
    ((((I 312 4) - v4) < 1 → Q v4 I) ∧ (¬ ((I 312 4) - v4) < 1 → ((2 < ((I 312 4) - v4) → Q v4 I) ∧ (¬ 2 < ((I 312 4) - v4) → (wp_X7_fits 313 I v1 v2 v5 (fun x15 => (((¬ x15 = 0 → ((v2 < 0 → Q (-1) I) ∧ (¬ v2 < 0 → ((5 ≤ v2 → Q (-1) I) ∧ (¬ 5 ≤ v2 → (vp_in v2 5 ∧ (∀ I20, I20 = u2 I 322 (ix v2) v5 → Q (-1) I20))))))) ∧ (x15 = 0 → Q v4 I)))))))))
set_option maxRecDepth 20000 in
theorem jnt_X3_readNumber_99 {E : Ev} {l : Launch} {n : Nat} {R : MR} (hn : 336 ≤ n) (hG : GRx R) (hB : R 312 2 = some 1) {I0 : MI} {Q : Int32 → MI → Prop} {I : MI} {L : ML} {v1 : Int32} {v2 : Int32} {v4 : Int32} {v5 : Int32} (h : jn_X3_readNumber_99 I v1 v2 v4 v5 Q) : X E l rm_X3_readNumber yX3_readNumber cX3_readNumber 7 (some .int) noX (ZM E rm_X3_readNumber (Qi n R (P10 I0 L Q))) 99 [(0, .ref 312), (1, .int v1), (2, .int v2), (4, .int v4), (5, .int v5)] [] n I L R 0 0 := by
  unfold jn_X3_readNumber_99 at h
  refine x_aload_n dX3_readNumber_99 rfl ?_
  refine x_geti dX3_readNumber_100 fk_RX3_32 (kl rfl hn) sh_312 ?_
  refine x_iload dX3_readNumber_103 rfl ?_
  refine x_isub dX3_readNumber_105 ?_
  refine x_istore (ls' := [(6, .int ((I 312 4) - v4)), (0, .ref 312), (1, .int v1), (2, .int v2), (4, .int v4), (5, .int v5)]) dX3_readNumber_106 (Nat.le_of_ble_eq_true rfl) rfl ?_
  refine x_iload dX3_readNumber_108 rfl ?_
  refine x_iconst (v := 1) dX3_readNumber_110 ki_1 ?_
  refine x_icmp_lt dX3_readNumber_111 (tgt := 134) rfl ⟨fun c13 => ?_, fun c13 => ?_⟩
  · have h := h.1 c13
    refine x_iload dX3_readNumber_134 rfl ?_
    exact x_ireturn dX3_readNumber_136 ⟨_, rfl, rfl, rfl, rfl, h⟩
  · have h := h.2 c13
    refine x_iload dX3_readNumber_114 rfl ?_
    refine x_iconst (v := 2) dX3_readNumber_116 ki_2 ?_
    refine x_icmp_gt dX3_readNumber_117 (tgt := 134) rfl ⟨fun c14 => ?_, fun c14 => ?_⟩
    · have h := h.1 c14
      refine x_iload dX3_readNumber_134 rfl ?_
      exact x_ireturn dX3_readNumber_136 ⟨_, rfl, rfl, rfl, rfl, h⟩
    · have h := h.2 c14
      refine x_iload_n dX3_readNumber_120 rfl ?_
      refine x_iload_n dX3_readNumber_121 rfl ?_
      refine x_iload dX3_readNumber_122 rfl ?_
      refine x_aload_n dX3_readNumber_124 rfl ?_
      refine x_getr (j := 313) dX3_readNumber_125 fk_RX3_12 (kl rfl hn) sh_312 (rt_312_0 hG) ?_
      refine x_cSi00 [.int v1, .int v2, .int v5, .ref 313] (mt_X7_fits hn hG plan_313 h) dX3_readNumber_128 lk_RX3_91 rfl rfl (Nat.le_of_ble_eq_true rfl) (Rf_of rfl) (fun x15 h => ?_)
      refine x_if_ne dX3_readNumber_131 (tgt := 137) rfl ⟨fun c16 => ?_, fun c16 => ?_⟩
      · have h := h.1 c16
        refine x_iload_n dX3_readNumber_137 rfl ?_
        refine x_if_lt dX3_readNumber_138 (tgt := 158) rfl ⟨fun c17 => ?_, fun c17 => ?_⟩
        · have h := h.1 c17
          refine x_iconst (v := (-1)) dX3_readNumber_158 ki_m1 ?_
          exact x_ireturn dX3_readNumber_159 ⟨_, rfl, rfl, rfl, rfl, h⟩
        · have h := h.2 c17
          refine x_iload_n dX3_readNumber_141 rfl ?_
          refine x_aload_n dX3_readNumber_142 rfl ?_
          refine x_getr (j := 322) dX3_readNumber_143 fk_RX3_20 (kl rfl hn) sh_312 (rt_312_1 hG) ?_
          refine x_alen (v := 5) dX3_readNumber_146 (kl rfl hn) sh_322 (by decide) rfl ?_
          refine x_icmp_ge dX3_readNumber_147 (tgt := 158) rfl ⟨fun c18 => ?_, fun c18 => ?_⟩
          · have h := h.1 c18
            refine x_iconst (v := (-1)) dX3_readNumber_158 ki_m1 ?_
            exact x_ireturn dX3_readNumber_159 ⟨_, rfl, rfl, rfl, rfl, h⟩
          · have h := h.2 c18
            refine x_aload_n dX3_readNumber_150 rfl ?_
            refine x_getr (j := 322) dX3_readNumber_151 fk_RX3_20 (kl rfl hn) sh_312 (rt_312_1 hG) ?_
            refine x_iload_n dX3_readNumber_154 rfl ?_
            refine x_iload dX3_readNumber_155 rfl ?_
            obtain ⟨b19, h⟩ := h
            refine x_iastore dX3_readNumber_157 (kl rfl hn) sh_322 b19 (fun I20 eI20 => ?_)
            have h := h I20 eI20
            refine x_iconst (v := (-1)) dX3_readNumber_158 ki_m1 ?_
            exact x_ireturn dX3_readNumber_159 ⟨_, rfl, rfl, rfl, rfl, h⟩
      · have h := h.2 c16
        refine x_iload dX3_readNumber_134 rfl ?_
        exact x_ireturn dX3_readNumber_136 ⟨_, rfl, rfl, rfl, rfl, h⟩
def wp_X3_readNumber (I : MI) (v1 : Int32) (v2 : Int32) (Q : Int32 → MI → Prop) : Prop :=
    (wp_X3_skipGaps I (fun I1 => (((¬ (I1 312 4) = (I 312 4) → (∃ N10, lp_X3_readNumber_27 (fun x11 I12 => (jn_X3_readNumber_99 I12 v1 v2 (I1 312 4) x11 Q)) N10 0 I1)) ∧ ((I1 312 4) = (I 312 4) → Q (I1 312 4) I1)))))
set_option maxRecDepth 20000 in
theorem mt_X3_readNumber {E : Ev} {l : Launch} {n : Nat} {R : MR} (hn : 336 ≤ n) (hG : GRx R) (hB : R 312 2 = some 1) {I : MI} {L : ML} {v1 : Int32} {v2 : Int32} {Q : Int32 → MI → Prop} (h : wp_X3_readNumber I v1 v2 Q) : MX E l rm_X3_readNumber yX3_readNumber cX3_readNumber 7 (some .int) [.ref 312, .int v1, .int v2] n I L R (Qi n R (P10 I L Q)) := by
  refine MX_of (ls := [(0, .ref 312), (1, .int v1), (2, .int v2)]) (by decide) (Nat.le_of_ble_eq_true rfl) rfl ?_
  unfold wp_X3_readNumber at h
  refine x_aload_n dX3_readNumber_0 rfl ?_
  refine x_geti dX3_readNumber_1 fk_RX3_32 (kl rfl hn) sh_312 ?_
  refine x_istore_n (ls' := [(3, .int (I 312 4)), (0, .ref 312), (1, .int v1), (2, .int v2)]) dX3_readNumber_4 (Nat.le_of_ble_eq_true rfl) rfl ?_
  refine x_aload_n dX3_readNumber_5 rfl ?_
  refine x_cVv10 [] (mt_X3_skipGaps hn hG hB h) dX3_readNumber_6 lk_RX3_44 (kl rfl hn) sh_312 rfl rfl (Nat.le_of_ble_eq_true rfl) (Rf_of rfl) (fun I1 h => ?_)
  refine x_aload_n dX3_readNumber_9 rfl ?_
  refine x_geti dX3_readNumber_10 fk_RX3_32 (kl rfl hn) sh_312 ?_
  refine x_istore (ls' := [(4, .int (I1 312 4)), (3, .int (I 312 4)), (0, .ref 312), (1, .int v1), (2, .int v2)]) dX3_readNumber_13 (Nat.le_of_ble_eq_true rfl) rfl ?_
  refine x_iload dX3_readNumber_15 rfl ?_
  refine x_iload_n dX3_readNumber_17 rfl ?_
  refine x_icmp_ne dX3_readNumber_18 (tgt := 24) rfl ⟨fun c2 => ?_, fun c2 => ?_⟩
  · have h := h.1 c2
    refine x_iconst (v := 0) dX3_readNumber_24 ki_0 ?_
    refine x_istore (ls' := [(5, .int 0), (4, .int (I1 312 4)), (3, .int (I 312 4)), (0, .ref 312), (1, .int v1), (2, .int v2)]) dX3_readNumber_25 (Nat.le_of_ble_eq_true rfl) rfl ?_
    refine x_ls (ls' := [(0, .ref 312), (1, .int v1), (2, .int v2), (4, .int (I1 312 4)), (5, .int 0)]) [3, 4, 5, 1, 0] rfl ?_
    obtain ⟨N10, h⟩ := h
    refine lpt_X3_readNumber_27 hn hG hB (fun x11 I12 h => ?_) N10 0 I1 h
    exact jnt_X3_readNumber_99 hn hG hB  h
  · have h := h.2 c2
    refine x_iload dX3_readNumber_21 rfl ?_
    exact x_ireturn dX3_readNumber_23 ⟨_, rfl, rfl, rfl, rfl, h⟩
abbrev rm_X3_readWord : Room := { frames := 5, cells := 0, slots := 0, locals := 108 }
def lp_X3_readWord_5 (kf57 : MI → Prop) : Nat → MI → Prop
  | 0, _ => False
  | n + 1, I =>
    (((I 312 3) ≤ (I 312 4) → kf57 I) ∧ (¬ (I 312 3) ≤ (I 312 4) → (vp_in (I 312 4) 400 ∧ (((I 1 (ix (I 312 4))) < 97 → kf57 I) ∧ (¬ (I 1 (ix (I 312 4))) < 97 → (vp_in (I 312 4) 400 ∧ ((122 < (I 1 (ix (I 312 4))) → kf57 I) ∧ (¬ 122 < (I 1 (ix (I 312 4))) → (∀ I6, I6 = u2 I 312 4 ((I 312 4) + 1) → (lp_X3_readWord_5 kf57 n I6))))))))))
set_option maxRecDepth 20000 in
theorem lpt_X3_readWord_5 {E : Ev} {l : Launch} {n : Nat} {R : MR} (hn : 336 ≤ n) (hG : GRx R) (hB : R 312 2 = some 1) {I0 : MI} {Q : Int32 → MI → Prop} {v1 : Int32} {L : ML} {kf57 : MI → Prop}
    (hK57 : ∀ (I : MI), kf57 I → X E l rm_X3_readWord yX3_readWord cX3_readWord 3 (some .int) noX (ZM E rm_X3_readWord (Qi n R (P10 I0 L Q))) 57 [(0, .ref 312), (1, .int v1)] [] n I L R 0 0) : ∀ (N : Nat) (I : MI), lp_X3_readWord_5 kf57 N I → X E l rm_X3_readWord yX3_readWord cX3_readWord 3 (some .int) noX (ZM E rm_X3_readWord (Qi n R (P10 I0 L Q))) 5 [(0, .ref 312), (1, .int v1)] [] n I L R 0 0 := by
  intro N
  induction N with
  | zero => intro I h; exact False.elim h
  | succ N ih =>
    intro I h
    unfold lp_X3_readWord_5 at h
    refine x_aload_n dX3_readWord_5 rfl ?_
    refine x_geti dX3_readWord_6 fk_RX3_32 (kl rfl hn) sh_312 ?_
    refine x_aload_n dX3_readWord_9 rfl ?_
    refine x_geti dX3_readWord_10 fk_RX3_28 (kl rfl hn) sh_312 ?_
    refine x_icmp_ge dX3_readWord_13 (tgt := 57) rfl ⟨fun c1 => ?_, fun c1 => ?_⟩
    · have h := h.1 c1
      exact hK57 I h
    · have h := h.2 c1
      refine x_aload_n dX3_readWord_16 rfl ?_
      refine x_getr (j := 1) dX3_readWord_17 fk_RX3_24 (kl rfl hn) sh_312 hB ?_
      refine x_aload_n dX3_readWord_20 rfl ?_
      refine x_geti dX3_readWord_21 fk_RX3_32 (kl rfl hn) sh_312 ?_
      obtain ⟨b2, h⟩ := h
      refine x_baload dX3_readWord_24 (kl rfl hn) sh_1 b2 ?_
      refine x_bipush (v := 97) dX3_readWord_25 kb_97 ?_
      refine x_icmp_lt dX3_readWord_27 (tgt := 57) rfl ⟨fun c3 => ?_, fun c3 => ?_⟩
      · have h := h.1 c3
        exact hK57 I h
      · have h := h.2 c3
        refine x_aload_n dX3_readWord_30 rfl ?_
        refine x_getr (j := 1) dX3_readWord_31 fk_RX3_24 (kl rfl hn) sh_312 hB ?_
        refine x_aload_n dX3_readWord_34 rfl ?_
        refine x_geti dX3_readWord_35 fk_RX3_32 (kl rfl hn) sh_312 ?_
        obtain ⟨b4, h⟩ := h
        refine x_baload dX3_readWord_38 (kl rfl hn) sh_1 b4 ?_
        refine x_bipush (v := 122) dX3_readWord_39 kb_122 ?_
        refine x_icmp_gt dX3_readWord_41 (tgt := 57) rfl ⟨fun c5 => ?_, fun c5 => ?_⟩
        · have h := h.1 c5
          exact hK57 I h
        · have h := h.2 c5
          refine x_aload_n dX3_readWord_44 rfl ?_
          refine x_dup dX3_readWord_45 rfl ?_
          refine x_geti dX3_readWord_46 fk_RX3_32 (kl rfl hn) sh_312 ?_
          refine x_iconst (v := 1) dX3_readWord_49 ki_1 ?_
          refine x_iadd dX3_readWord_50 ?_
          refine x_puti dX3_readWord_51 fk_RX3_32 fw_3_4 (vp_nar_int _) rfl (kl rfl hn) sh_312 (fun I6 eI6 => ?_)
          have h := h I6 eI6
          refine x_goto dX3_readWord_54 (tgt := 5) rfl ?_
          exact ih I6 h
def lp_X3_readWord_59 (I : MI) (v1 : Int32) (Q : Int32 → MI → Prop) : Nat → Int32 → Prop
  | 0, _ => False
  | n + 1, v2 =>
    ((7 ≤ v2 → Q (-1) I) ∧ (¬ 7 ≤ v2 → (wp_X7_spelled v2 (fun x10 => ((wp_X3_isSpelled I x10 v1 (fun x11 => (((x11 = 0 → (lp_X3_readWord_59 I v1 Q n (v2 + 1))) ∧ (¬ x11 = 0 → Q v2 I))))))))))
set_option maxRecDepth 20000 in
theorem lpt_X3_readWord_59 {E : Ev} {l : Launch} {n : Nat} {R : MR} (hn : 336 ≤ n) (hG : GRx R) (hB : R 312 2 = some 1) {I0 : MI} {Q : Int32 → MI → Prop} {I : MI} {v1 : Int32} {L : ML} : ∀ (N : Nat) (v2 : Int32), lp_X3_readWord_59 I v1 Q N v2 → X E l rm_X3_readWord yX3_readWord cX3_readWord 3 (some .int) noX (ZM E rm_X3_readWord (Qi n R (P10 I0 L Q))) 59 [(0, .ref 312), (1, .int v1), (2, .int v2)] [] n I L R 0 0 := by
  intro N
  induction N with
  | zero => intro v2 h; exact False.elim h
  | succ N ih =>
    intro v2 h
    unfold lp_X3_readWord_59 at h
    refine x_iload_n dX3_readWord_59 rfl ?_
    refine x_bipush (v := 7) dX3_readWord_60 kb_7 ?_
    refine x_icmp_ge dX3_readWord_62 (tgt := 85) rfl ⟨fun c9 => ?_, fun c9 => ?_⟩
    · have h := h.1 c9
      refine x_iconst (v := (-1)) dX3_readWord_85 ki_m1 ?_
      exact x_ireturn dX3_readWord_86 ⟨_, rfl, rfl, rfl, rfl, h⟩
    · have h := h.2 c9
      refine x_aload_n dX3_readWord_65 rfl ?_
      refine x_iload_n dX3_readWord_66 rfl ?_
      refine x_cSa00 [.int v2] (mt_X7_spelled hn hG h) dX3_readWord_67 lk_RX3_75 rfl rfl (Nat.le_of_ble_eq_true rfl) (Rf_of rfl) (fun x10 h => ?_)
      refine x_iload_n dX3_readWord_70 rfl ?_
      refine x_cVi00 [.ref x10, .int v1] (mt_X3_isSpelled hn hG hB h) dX3_readWord_71 lk_RX3_79 (kl rfl hn) sh_312 rfl rfl (Nat.le_of_ble_eq_true rfl) (Rf_of rfl) (fun x11 h => ?_)
      refine x_if_eq dX3_readWord_74 (tgt := 79) rfl ⟨fun c12 => ?_, fun c12 => ?_⟩
      · have h := h.1 c12
        refine x_iinc (v := v2 + 1) (ls' := [(2, .int (v2 + 1)), (0, .ref 312), (1, .int v1)]) dX3_readWord_79 rfl (congrArg (_ + ·) ki_1) (Nat.le_of_ble_eq_true rfl) rfl ?_
        refine x_goto dX3_readWord_82 (tgt := 59) rfl ?_
        refine x_ls (ls' := [(0, .ref 312), (1, .int v1), (2, .int (v2 + 1))]) [1, 2, 0] rfl ?_
        exact ih (v2 + 1) h
      · have h := h.2 c12
        refine x_iload_n dX3_readWord_77 rfl ?_
        exact x_ireturn dX3_readWord_78 ⟨_, rfl, rfl, rfl, rfl, h⟩
def jn_X3_readWord_57 (I : MI) (v1 : Int32) (Q : Int32 → MI → Prop) : Prop :=
    (∃ N13, lp_X3_readWord_59 I v1 Q N13 0)
set_option maxRecDepth 20000 in
theorem jnt_X3_readWord_57 {E : Ev} {l : Launch} {n : Nat} {R : MR} (hn : 336 ≤ n) (hG : GRx R) (hB : R 312 2 = some 1) {I0 : MI} {Q : Int32 → MI → Prop} {I : MI} {L : ML} {v1 : Int32} (h : jn_X3_readWord_57 I v1 Q) : X E l rm_X3_readWord yX3_readWord cX3_readWord 3 (some .int) noX (ZM E rm_X3_readWord (Qi n R (P10 I0 L Q))) 57 [(0, .ref 312), (1, .int v1)] [] n I L R 0 0 := by
  unfold jn_X3_readWord_57 at h
  refine x_iconst (v := 0) dX3_readWord_57 ki_0 ?_
  refine x_istore_n (ls' := [(2, .int 0), (0, .ref 312), (1, .int v1)]) dX3_readWord_58 (Nat.le_of_ble_eq_true rfl) rfl ?_
  refine x_ls (ls' := [(0, .ref 312), (1, .int v1), (2, .int 0)]) [1, 2, 0] rfl ?_
  obtain ⟨N13, h⟩ := h
  exact lpt_X3_readWord_59 hn hG hB  N13 0 h
def wp_X3_readWord (I : MI) (Q : Int32 → MI → Prop) : Prop :=
    (∃ N7, lp_X3_readWord_5 (fun I8 => (jn_X3_readWord_57 I8 (I 312 4) Q)) N7 I)
set_option maxRecDepth 20000 in
theorem mt_X3_readWord {E : Ev} {l : Launch} {n : Nat} {R : MR} (hn : 336 ≤ n) (hG : GRx R) (hB : R 312 2 = some 1) {I : MI} {L : ML} {Q : Int32 → MI → Prop} (h : wp_X3_readWord I Q) : MX E l rm_X3_readWord yX3_readWord cX3_readWord 3 (some .int) [.ref 312] n I L R (Qi n R (P10 I L Q)) := by
  refine MX_of (ls := [(0, .ref 312)]) (by decide) (Nat.le_of_ble_eq_true rfl) rfl ?_
  unfold wp_X3_readWord at h
  refine x_aload_n dX3_readWord_0 rfl ?_
  refine x_geti dX3_readWord_1 fk_RX3_32 (kl rfl hn) sh_312 ?_
  refine x_istore_n (ls' := [(1, .int (I 312 4)), (0, .ref 312)]) dX3_readWord_4 (Nat.le_of_ble_eq_true rfl) rfl ?_
  refine x_ls (ls' := [(0, .ref 312), (1, .int (I 312 4))]) [1, 0] rfl ?_
  obtain ⟨N7, h⟩ := h
  refine lpt_X3_readWord_5 hn hG hB (fun I8 h => ?_) N7 I h
  exact jnt_X3_readWord_57 hn hG hB  h
abbrev rm_X3_takeBase : Room := { frames := 0, cells := 0, slots := 0, locals := 0 }
def wp_X3_takeBase (I : MI) (Q : MI → Prop) : Prop :=
    (vp_in 0 5 ∧ (vp_in ((I 313 1) &&& 3) 4 ∧ (∀ I3, I3 = u2 I 318 (ix ((I 313 1) &&& 3)) (I 322 (ix 0)) → (∀ I4, I4 = u2 I3 313 1 ((I3 313 1) + 1) → Q I4))))
set_option maxRecDepth 20000 in
theorem mt_X3_takeBase {E : Ev} {l : Launch} {n : Nat} {R : MR} (hn : 336 ≤ n) (hG : GRx R) {I : MI} {L : ML} {Q : MI → Prop} (h : wp_X3_takeBase I Q) : MX E l rm_X3_takeBase yX3_takeBase cX3_takeBase 1 none [.ref 312] n I L R (Qv n R (V10 I L Q)) := by
  refine MX_of (ls := [(0, .ref 312)]) (by decide) (Nat.le_of_ble_eq_true rfl) rfl ?_
  unfold wp_X3_takeBase at h
  refine x_aload_n dX3_takeBase_0 rfl ?_
  refine x_getr (j := 313) dX3_takeBase_1 fk_RX3_12 (kl rfl hn) sh_312 (rt_312_0 hG) ?_
  refine x_getr (j := 318) dX3_takeBase_4 fk_RX3_125 (Pn_k plan_313 hn 0 rfl) (Pn_s0 plan_313) (Pn_r9 hG plan_313) ?_
  refine x_aload_n dX3_takeBase_7 rfl ?_
  refine x_getr (j := 313) dX3_takeBase_8 fk_RX3_12 (kl rfl hn) sh_312 (rt_312_0 hG) ?_
  refine x_geti dX3_takeBase_11 fk_RX3_72 (Pn_k plan_313 hn 0 rfl) (Pn_s0 plan_313) ?_
  refine x_iconst (v := 3) dX3_takeBase_14 ki_3 ?_
  refine x_iand dX3_takeBase_15 ?_
  refine x_aload_n dX3_takeBase_16 rfl ?_
  refine x_getr (j := 322) dX3_takeBase_17 fk_RX3_20 (kl rfl hn) sh_312 (rt_312_1 hG) ?_
  refine x_iconst (v := 0) dX3_takeBase_20 ki_0 ?_
  obtain ⟨b1, h⟩ := h
  refine x_iaload dX3_takeBase_21 (kl rfl hn) sh_322 b1 ?_
  obtain ⟨b2, h⟩ := h
  refine x_iastore dX3_takeBase_22 (Pn_k plan_313 hn 5 rfl) (Pn_s5 plan_313) b2 (fun I3 eI3 => ?_)
  have h := h I3 eI3
  refine x_aload_n dX3_takeBase_23 rfl ?_
  refine x_getr (j := 313) dX3_takeBase_24 fk_RX3_12 (kl rfl hn) sh_312 (rt_312_0 hG) ?_
  refine x_dup dX3_takeBase_27 rfl ?_
  refine x_geti dX3_takeBase_28 fk_RX3_72 (Pn_k plan_313 hn 0 rfl) (Pn_s0 plan_313) ?_
  refine x_iconst (v := 1) dX3_takeBase_31 ki_1 ?_
  refine x_iadd dX3_takeBase_32 ?_
  refine x_puti dX3_takeBase_33 fk_RX3_72 fw_1_1 (vp_nar_int _) rfl (Pn_k plan_313 hn 0 rfl) (Pn_s0 plan_313) (fun I4 eI4 => ?_)
  have h := h I4 eI4
  exact x_return dX3_takeBase_36 ⟨rfl, rfl, rfl, rfl, h⟩
abbrev rm_X3_takeCell : Room := { frames := 1, cells := 0, slots := 0, locals := 21 }
def wp_X3_takeCell (I : MI) (Q : MI → Prop) : Prop :=
    (vp_in 0 5 ∧ (vp_in 1 5 ∧ (wp_X9_placeOf (I 322 (ix 0)) (I 322 (ix 1)) (fun x3 => ((vp_in 2 5 ∧ (vp_in (x3 &&& 15) 16 ∧ (∀ I6, I6 = u2 I 319 (ix (x3 &&& 15)) (I 322 (ix 2)) → (vp_in 3 5 ∧ (vp_in (x3 &&& 15) 16 ∧ (∀ I9, I9 = u2 I6 320 (ix (x3 &&& 15)) (I6 322 (ix 3)) → (vp_in 4 5 ∧ (vp_in (x3 &&& 15) 16 ∧ (∀ I12, I12 = u2 I9 321 (ix (x3 &&& 15)) (I9 322 (ix 4)) → Q I12))))))))))))))
set_option maxRecDepth 20000 in
theorem mt_X3_takeCell {E : Ev} {l : Launch} {n : Nat} {R : MR} (hn : 336 ≤ n) (hG : GRx R) {I : MI} {L : ML} {Q : MI → Prop} (h : wp_X3_takeCell I Q) : MX E l rm_X3_takeCell yX3_takeCell cX3_takeCell 2 none [.ref 312] n I L R (Qv n R (V10 I L Q)) := by
  refine MX_of (ls := [(0, .ref 312)]) (by decide) (Nat.le_of_ble_eq_true rfl) rfl ?_
  unfold wp_X3_takeCell at h
  refine x_aload_n dX3_takeCell_0 rfl ?_
  refine x_getr (j := 322) dX3_takeCell_1 fk_RX3_20 (kl rfl hn) sh_312 (rt_312_1 hG) ?_
  refine x_iconst (v := 0) dX3_takeCell_4 ki_0 ?_
  obtain ⟨b1, h⟩ := h
  refine x_iaload dX3_takeCell_5 (kl rfl hn) sh_322 b1 ?_
  refine x_aload_n dX3_takeCell_6 rfl ?_
  refine x_getr (j := 322) dX3_takeCell_7 fk_RX3_20 (kl rfl hn) sh_312 (rt_312_1 hG) ?_
  refine x_iconst (v := 1) dX3_takeCell_10 ki_1 ?_
  obtain ⟨b2, h⟩ := h
  refine x_iaload dX3_takeCell_11 (kl rfl hn) sh_322 b2 ?_
  refine x_cNi00 [.int (I 322 (ix 0)), .int (I 322 (ix 1))] (mt_X9_placeOf hn hG h) dX3_takeCell_12 lk_RX3_128 rfl rfl (Nat.le_of_ble_eq_true rfl) (Rf_of rfl) (fun x3 h => ?_)
  refine x_bipush (v := 15) dX3_takeCell_15 kb_15 ?_
  refine x_iand dX3_takeCell_17 ?_
  refine x_istore_n (ls' := [(1, .int (x3 &&& 15)), (0, .ref 312)]) dX3_takeCell_18 (Nat.le_of_ble_eq_true rfl) rfl ?_
  refine x_aload_n dX3_takeCell_19 rfl ?_
  refine x_getr (j := 313) dX3_takeCell_20 fk_RX3_12 (kl rfl hn) sh_312 (rt_312_0 hG) ?_
  refine x_getr (j := 319) dX3_takeCell_23 fk_RX3_131 (Pn_k plan_313 hn 0 rfl) (Pn_s0 plan_313) (Pn_r10 hG plan_313) ?_
  refine x_iload_n dX3_takeCell_26 rfl ?_
  refine x_aload_n dX3_takeCell_27 rfl ?_
  refine x_getr (j := 322) dX3_takeCell_28 fk_RX3_20 (kl rfl hn) sh_312 (rt_312_1 hG) ?_
  refine x_iconst (v := 2) dX3_takeCell_31 ki_2 ?_
  obtain ⟨b4, h⟩ := h
  refine x_iaload dX3_takeCell_32 (kl rfl hn) sh_322 b4 ?_
  obtain ⟨b5, h⟩ := h
  refine x_iastore dX3_takeCell_33 (Pn_k plan_313 hn 6 rfl) (Pn_s6 plan_313) b5 (fun I6 eI6 => ?_)
  have h := h I6 eI6
  refine x_aload_n dX3_takeCell_34 rfl ?_
  refine x_getr (j := 313) dX3_takeCell_35 fk_RX3_12 (kl rfl hn) sh_312 (rt_312_0 hG) ?_
  refine x_getr (j := 320) dX3_takeCell_38 fk_RX3_134 (Pn_k plan_313 hn 0 rfl) (Pn_s0 plan_313) (Pn_r11 hG plan_313) ?_
  refine x_iload_n dX3_takeCell_41 rfl ?_
  refine x_aload_n dX3_takeCell_42 rfl ?_
  refine x_getr (j := 322) dX3_takeCell_43 fk_RX3_20 (kl rfl hn) sh_312 (rt_312_1 hG) ?_
  refine x_iconst (v := 3) dX3_takeCell_46 ki_3 ?_
  obtain ⟨b7, h⟩ := h
  refine x_iaload dX3_takeCell_47 (kl rfl hn) sh_322 b7 ?_
  obtain ⟨b8, h⟩ := h
  refine x_iastore dX3_takeCell_48 (Pn_k plan_313 hn 7 rfl) (Pn_s7 plan_313) b8 (fun I9 eI9 => ?_)
  have h := h I9 eI9
  refine x_aload_n dX3_takeCell_49 rfl ?_
  refine x_getr (j := 313) dX3_takeCell_50 fk_RX3_12 (kl rfl hn) sh_312 (rt_312_0 hG) ?_
  refine x_getr (j := 321) dX3_takeCell_53 fk_RX3_137 (Pn_k plan_313 hn 0 rfl) (Pn_s0 plan_313) (Pn_r12 hG plan_313) ?_
  refine x_iload_n dX3_takeCell_56 rfl ?_
  refine x_aload_n dX3_takeCell_57 rfl ?_
  refine x_getr (j := 322) dX3_takeCell_58 fk_RX3_20 (kl rfl hn) sh_312 (rt_312_1 hG) ?_
  refine x_iconst (v := 4) dX3_takeCell_61 ki_4 ?_
  obtain ⟨b10, h⟩ := h
  refine x_iaload dX3_takeCell_62 (kl rfl hn) sh_322 b10 ?_
  obtain ⟨b11, h⟩ := h
  refine x_iastore dX3_takeCell_63 (Pn_k plan_313 hn 8 rfl) (Pn_s8 plan_313) b11 (fun I12 eI12 => ?_)
  have h := h I12 eI12
  exact x_return dX3_takeCell_64 ⟨rfl, rfl, rfl, rfl, h⟩
abbrev rm_X3_takePart : Room := { frames := 0, cells := 0, slots := 0, locals := 0 }
def wp_X3_takePart (I : MI) (Q : MI → Prop) : Prop :=
    (vp_in 0 5 ∧ (vp_in ((I 313 0) &&& 3) 4 ∧ (∀ I3, I3 = u2 I 314 (ix ((I 313 0) &&& 3)) (I 322 (ix 0)) → (vp_in 1 5 ∧ (vp_in ((I 313 0) &&& 3) 4 ∧ (∀ I6, I6 = u2 I3 315 (ix ((I 313 0) &&& 3)) (I3 322 (ix 1)) → (vp_in 2 5 ∧ (vp_in ((I 313 0) &&& 3) 4 ∧ (∀ I9, I9 = u2 I6 316 (ix ((I 313 0) &&& 3)) (I6 322 (ix 2)) → (∀ I10, I10 = u2 I9 313 0 ((I9 313 0) + 1) → Q I10))))))))))
set_option maxRecDepth 20000 in
theorem mt_X3_takePart {E : Ev} {l : Launch} {n : Nat} {R : MR} (hn : 336 ≤ n) (hG : GRx R) {I : MI} {L : ML} {Q : MI → Prop} (h : wp_X3_takePart I Q) : MX E l rm_X3_takePart yX3_takePart cX3_takePart 2 none [.ref 312] n I L R (Qv n R (V10 I L Q)) := by
  refine MX_of (ls := [(0, .ref 312)]) (by decide) (Nat.le_of_ble_eq_true rfl) rfl ?_
  unfold wp_X3_takePart at h
  refine x_aload_n dX3_takePart_0 rfl ?_
  refine x_getr (j := 313) dX3_takePart_1 fk_RX3_12 (kl rfl hn) sh_312 (rt_312_0 hG) ?_
  refine x_geti dX3_takePart_4 fk_RX3_69 (Pn_k plan_313 hn 0 rfl) (Pn_s0 plan_313) ?_
  refine x_iconst (v := 3) dX3_takePart_7 ki_3 ?_
  refine x_iand dX3_takePart_8 ?_
  refine x_istore_n (ls' := [(1, .int ((I 313 0) &&& 3)), (0, .ref 312)]) dX3_takePart_9 (Nat.le_of_ble_eq_true rfl) rfl ?_
  refine x_aload_n dX3_takePart_10 rfl ?_
  refine x_getr (j := 313) dX3_takePart_11 fk_RX3_12 (kl rfl hn) sh_312 (rt_312_0 hG) ?_
  refine x_getr (j := 314) dX3_takePart_14 fk_RX3_116 (Pn_k plan_313 hn 0 rfl) (Pn_s0 plan_313) (Pn_r5 hG plan_313) ?_
  refine x_iload_n dX3_takePart_17 rfl ?_
  refine x_aload_n dX3_takePart_18 rfl ?_
  refine x_getr (j := 322) dX3_takePart_19 fk_RX3_20 (kl rfl hn) sh_312 (rt_312_1 hG) ?_
  refine x_iconst (v := 0) dX3_takePart_22 ki_0 ?_
  obtain ⟨b1, h⟩ := h
  refine x_iaload dX3_takePart_23 (kl rfl hn) sh_322 b1 ?_
  obtain ⟨b2, h⟩ := h
  refine x_iastore dX3_takePart_24 (Pn_k plan_313 hn 1 rfl) (Pn_s1 plan_313) b2 (fun I3 eI3 => ?_)
  have h := h I3 eI3
  refine x_aload_n dX3_takePart_25 rfl ?_
  refine x_getr (j := 313) dX3_takePart_26 fk_RX3_12 (kl rfl hn) sh_312 (rt_312_0 hG) ?_
  refine x_getr (j := 315) dX3_takePart_29 fk_RX3_119 (Pn_k plan_313 hn 0 rfl) (Pn_s0 plan_313) (Pn_r6 hG plan_313) ?_
  refine x_iload_n dX3_takePart_32 rfl ?_
  refine x_aload_n dX3_takePart_33 rfl ?_
  refine x_getr (j := 322) dX3_takePart_34 fk_RX3_20 (kl rfl hn) sh_312 (rt_312_1 hG) ?_
  refine x_iconst (v := 1) dX3_takePart_37 ki_1 ?_
  obtain ⟨b4, h⟩ := h
  refine x_iaload dX3_takePart_38 (kl rfl hn) sh_322 b4 ?_
  obtain ⟨b5, h⟩ := h
  refine x_iastore dX3_takePart_39 (Pn_k plan_313 hn 2 rfl) (Pn_s2 plan_313) b5 (fun I6 eI6 => ?_)
  have h := h I6 eI6
  refine x_aload_n dX3_takePart_40 rfl ?_
  refine x_getr (j := 313) dX3_takePart_41 fk_RX3_12 (kl rfl hn) sh_312 (rt_312_0 hG) ?_
  refine x_getr (j := 316) dX3_takePart_44 fk_RX3_122 (Pn_k plan_313 hn 0 rfl) (Pn_s0 plan_313) (Pn_r7 hG plan_313) ?_
  refine x_iload_n dX3_takePart_47 rfl ?_
  refine x_aload_n dX3_takePart_48 rfl ?_
  refine x_getr (j := 322) dX3_takePart_49 fk_RX3_20 (kl rfl hn) sh_312 (rt_312_1 hG) ?_
  refine x_iconst (v := 2) dX3_takePart_52 ki_2 ?_
  obtain ⟨b7, h⟩ := h
  refine x_iaload dX3_takePart_53 (kl rfl hn) sh_322 b7 ?_
  obtain ⟨b8, h⟩ := h
  refine x_iastore dX3_takePart_54 (Pn_k plan_313 hn 3 rfl) (Pn_s3 plan_313) b8 (fun I9 eI9 => ?_)
  have h := h I9 eI9
  refine x_aload_n dX3_takePart_55 rfl ?_
  refine x_getr (j := 313) dX3_takePart_56 fk_RX3_12 (kl rfl hn) sh_312 (rt_312_0 hG) ?_
  refine x_dup dX3_takePart_59 rfl ?_
  refine x_geti dX3_takePart_60 fk_RX3_69 (Pn_k plan_313 hn 0 rfl) (Pn_s0 plan_313) ?_
  refine x_iconst (v := 1) dX3_takePart_63 ki_1 ?_
  refine x_iadd dX3_takePart_64 ?_
  refine x_puti dX3_takePart_65 fk_RX3_69 fw_1_0 (vp_nar_int _) rfl (Pn_k plan_313 hn 0 rfl) (Pn_s0 plan_313) (fun I10 eI10 => ?_)
  have h := h I10 eI10
  exact x_return dX3_takePart_68 ⟨rfl, rfl, rfl, rfl, h⟩
abbrev rm_X3_take : Room := { frames := 2, cells := 0, slots := 0, locals := 42 }
def wp_X3_take (I : MI) (v1 : Int32) (Q : MI → Prop) : Prop :=
    ((v1 = 0 → (vp_in 0 5 ∧ (∀ I3, I3 = u2 I 313 2 (I 322 (ix 0)) → Q I3))) ∧ (¬ v1 = 0 → ((v1 = 1 → (vp_in 0 5 ∧ (∀ I6, I6 = u2 I 313 3 (I 322 (ix 0)) → Q I6))) ∧ (¬ v1 = 1 → ((v1 = 2 → (vp_in 0 5 ∧ (∀ I9, I9 = u2 I 313 4 (I 322 (ix 0)) → Q I9))) ∧ (¬ v1 = 2 → ((v1 = 3 → (wp_X3_takePart I (fun I11 => (Q I11)))) ∧ (¬ v1 = 3 → ((v1 = 4 → (wp_X3_takeBase I (fun I13 => (Q I13)))) ∧ (¬ v1 = 4 → ((v1 = 5 → (wp_X3_takeCell I (fun I15 => (Q I15)))) ∧ (¬ v1 = 5 → (vp_in 0 5 ∧ (vp_in 1 5 ∧ (vp_in ((I 322 (ix 0)) &&& 3) 4 ∧ (∀ I19, I19 = u2 I 317 (ix ((I 322 (ix 0)) &&& 3)) (I 322 (ix 1)) → Q I19))))))))))))))))
set_option maxRecDepth 20000 in
theorem mt_X3_take {E : Ev} {l : Launch} {n : Nat} {R : MR} (hn : 336 ≤ n) (hG : GRx R) {I : MI} {L : ML} {v1 : Int32} {Q : MI → Prop} (h : wp_X3_take I v1 Q) : MX E l rm_X3_take yX3_take cX3_take 2 none [.ref 312, .int v1] n I L R (Qv n R (V10 I L Q)) := by
  refine MX_of (ls := [(0, .ref 312), (1, .int v1)]) (by decide) (Nat.le_of_ble_eq_true rfl) rfl ?_
  unfold wp_X3_take at h
  refine x_iload_n dX3_take_0 rfl ?_
  rcases Classical.em (v1 = 0) with c1 | c1
  · have h := h.1 c1
    refine x_tabIn (tgt := 40) dX3_take_1 (by rw [c1]; decide) (by rw [c1]; decide) (off := 39) (by rw [c1]; rfl) rfl ?_
    refine x_aload_n dX3_take_40 rfl ?_
    refine x_getr (j := 313) dX3_take_41 fk_RX3_12 (kl rfl hn) sh_312 (rt_312_0 hG) ?_
    refine x_aload_n dX3_take_44 rfl ?_
    refine x_getr (j := 322) dX3_take_45 fk_RX3_20 (kl rfl hn) sh_312 (rt_312_1 hG) ?_
    refine x_iconst (v := 0) dX3_take_48 ki_0 ?_
    obtain ⟨b2, h⟩ := h
    refine x_iaload dX3_take_49 (kl rfl hn) sh_322 b2 ?_
    refine x_puti dX3_take_50 fk_RX3_95 fw_1_2 (vp_nar_int _) rfl (Pn_k plan_313 hn 0 rfl) (Pn_s0 plan_313) (fun I3 eI3 => ?_)
    have h := h I3 eI3
    refine x_goto dX3_take_53 (tgt := 131) rfl ?_
    exact x_return dX3_take_131 ⟨rfl, rfl, rfl, rfl, h⟩
  · have h := h.2 c1
    rcases Classical.em (v1 = 1) with c4 | c4
    · have h := h.1 c4
      refine x_tabIn (tgt := 56) dX3_take_1 (by rw [c4]; decide) (by rw [c4]; decide) (off := 55) (by rw [c4]; rfl) rfl ?_
      refine x_aload_n dX3_take_56 rfl ?_
      refine x_getr (j := 313) dX3_take_57 fk_RX3_12 (kl rfl hn) sh_312 (rt_312_0 hG) ?_
      refine x_aload_n dX3_take_60 rfl ?_
      refine x_getr (j := 322) dX3_take_61 fk_RX3_20 (kl rfl hn) sh_312 (rt_312_1 hG) ?_
      refine x_iconst (v := 0) dX3_take_64 ki_0 ?_
      obtain ⟨b5, h⟩ := h
      refine x_iaload dX3_take_65 (kl rfl hn) sh_322 b5 ?_
      refine x_puti dX3_take_66 fk_RX3_98 fw_1_3 (vp_nar_int _) rfl (Pn_k plan_313 hn 0 rfl) (Pn_s0 plan_313) (fun I6 eI6 => ?_)
      have h := h I6 eI6
      refine x_goto dX3_take_69 (tgt := 131) rfl ?_
      exact x_return dX3_take_131 ⟨rfl, rfl, rfl, rfl, h⟩
    · have h := h.2 c4
      rcases Classical.em (v1 = 2) with c7 | c7
      · have h := h.1 c7
        refine x_tabIn (tgt := 72) dX3_take_1 (by rw [c7]; decide) (by rw [c7]; decide) (off := 71) (by rw [c7]; rfl) rfl ?_
        refine x_aload_n dX3_take_72 rfl ?_
        refine x_getr (j := 313) dX3_take_73 fk_RX3_12 (kl rfl hn) sh_312 (rt_312_0 hG) ?_
        refine x_aload_n dX3_take_76 rfl ?_
        refine x_getr (j := 322) dX3_take_77 fk_RX3_20 (kl rfl hn) sh_312 (rt_312_1 hG) ?_
        refine x_iconst (v := 0) dX3_take_80 ki_0 ?_
        obtain ⟨b8, h⟩ := h
        refine x_iaload dX3_take_81 (kl rfl hn) sh_322 b8 ?_
        refine x_puti dX3_take_82 fk_RX3_101 fw_1_4 (vp_nar_int _) rfl (Pn_k plan_313 hn 0 rfl) (Pn_s0 plan_313) (fun I9 eI9 => ?_)
        have h := h I9 eI9
        refine x_goto dX3_take_85 (tgt := 131) rfl ?_
        exact x_return dX3_take_131 ⟨rfl, rfl, rfl, rfl, h⟩
      · have h := h.2 c7
        rcases Classical.em (v1 = 3) with c10 | c10
        · have h := h.1 c10
          refine x_tabIn (tgt := 88) dX3_take_1 (by rw [c10]; decide) (by rw [c10]; decide) (off := 87) (by rw [c10]; rfl) rfl ?_
          refine x_aload_n dX3_take_88 rfl ?_
          refine x_cVv10 [] (mt_X3_takePart hn hG h) dX3_take_89 lk_RX3_104 (kl rfl hn) sh_312 rfl rfl (Nat.le_of_ble_eq_true rfl) (Rf_of rfl) (fun I11 h => ?_)
          refine x_goto dX3_take_92 (tgt := 131) rfl ?_
          exact x_return dX3_take_131 ⟨rfl, rfl, rfl, rfl, h⟩
        · have h := h.2 c10
          rcases Classical.em (v1 = 4) with c12 | c12
          · have h := h.1 c12
            refine x_tabIn (tgt := 95) dX3_take_1 (by rw [c12]; decide) (by rw [c12]; decide) (off := 94) (by rw [c12]; rfl) rfl ?_
            refine x_aload_n dX3_take_95 rfl ?_
            refine x_cVv10 [] (mt_X3_takeBase hn hG h) dX3_take_96 lk_RX3_107 (kl rfl hn) sh_312 rfl rfl (Nat.le_of_ble_eq_true rfl) (Rf_of rfl) (fun I13 h => ?_)
            refine x_goto dX3_take_99 (tgt := 131) rfl ?_
            exact x_return dX3_take_131 ⟨rfl, rfl, rfl, rfl, h⟩
          · have h := h.2 c12
            rcases Classical.em (v1 = 5) with c14 | c14
            · have h := h.1 c14
              refine x_tabIn (tgt := 102) dX3_take_1 (by rw [c14]; decide) (by rw [c14]; decide) (off := 101) (by rw [c14]; rfl) rfl ?_
              refine x_aload_n dX3_take_102 rfl ?_
              refine x_cVv10 [] (mt_X3_takeCell hn hG h) dX3_take_103 lk_RX3_110 (kl rfl hn) sh_312 rfl rfl (Nat.le_of_ble_eq_true rfl) (Rf_of rfl) (fun I15 h => ?_)
              refine x_goto dX3_take_106 (tgt := 131) rfl ?_
              exact x_return dX3_take_131 ⟨rfl, rfl, rfl, rfl, h⟩
            · have h := h.2 c14
              refine x_tabOut (tgt := 109) dX3_take_1 (sw_out 5 rfl (sw_6 c1 c4 c7 c10 c12 c14)) rfl ?_
              refine x_aload_n dX3_take_109 rfl ?_
              refine x_getr (j := 313) dX3_take_110 fk_RX3_12 (kl rfl hn) sh_312 (rt_312_0 hG) ?_
              refine x_getr (j := 317) dX3_take_113 fk_RX3_113 (Pn_k plan_313 hn 0 rfl) (Pn_s0 plan_313) (Pn_r8 hG plan_313) ?_
              refine x_aload_n dX3_take_116 rfl ?_
              refine x_getr (j := 322) dX3_take_117 fk_RX3_20 (kl rfl hn) sh_312 (rt_312_1 hG) ?_
              refine x_iconst (v := 0) dX3_take_120 ki_0 ?_
              obtain ⟨b16, h⟩ := h
              refine x_iaload dX3_take_121 (kl rfl hn) sh_322 b16 ?_
              refine x_iconst (v := 3) dX3_take_122 ki_3 ?_
              refine x_iand dX3_take_123 ?_
              refine x_aload_n dX3_take_124 rfl ?_
              refine x_getr (j := 322) dX3_take_125 fk_RX3_20 (kl rfl hn) sh_312 (rt_312_1 hG) ?_
              refine x_iconst (v := 1) dX3_take_128 ki_1 ?_
              obtain ⟨b17, h⟩ := h
              refine x_iaload dX3_take_129 (kl rfl hn) sh_322 b17 ?_
              obtain ⟨b18, h⟩ := h
              refine x_iastore dX3_take_130 (Pn_k plan_313 hn 4 rfl) (Pn_s4 plan_313) b18 (fun I19 eI19 => ?_)
              have h := h I19 eI19
              exact x_return dX3_take_131 ⟨rfl, rfl, rfl, rfl, h⟩
abbrev rm_X3_readOne : Room := { frames := 6, cells := 0, slots := 0, locals := 130 }
def lp_X3_readOne_27 (v2 : Int32) (Q : Int32 → MI → Prop) (kf58 : MI → Prop) : Nat → Int32 → MI → Prop
  | 0, _, _ => False
  | n + 1, v3, I =>
    (wp_X7_numbersOf I v2 (fun x6 => (((x6 ≤ v3 → kf58 I) ∧ (¬ x6 ≤ v3 → (wp_X3_readNumber I v2 v3 (fun x8 I9 => (((x8 = (-1) → (lp_X3_readOne_27 v2 Q kf58 n (v3 + 1) I9)) ∧ (¬ x8 = (-1) → Q x8 I9))))))))))
set_option maxRecDepth 20000 in
theorem lpt_X3_readOne_27 {E : Ev} {l : Launch} {n : Nat} {R : MR} (hn : 336 ≤ n) (hG : GRx R) (hB : R 312 2 = some 1) {I0 : MI} {Q : Int32 → MI → Prop} {v2 : Int32} {L : ML} {kf58 : MI → Prop}
    (hK58 : ∀ (I : MI), kf58 I → X E l rm_X3_readOne yX3_readOne cX3_readOne 5 (some .int) noX (ZM E rm_X3_readOne (Qi n R (P10 I0 L Q))) 58 [(0, .ref 312), (2, .int v2)] [] n I L R 0 0) : ∀ (N : Nat) (v3 : Int32) (I : MI), lp_X3_readOne_27 v2 Q kf58 N v3 I → X E l rm_X3_readOne yX3_readOne cX3_readOne 5 (some .int) noX (ZM E rm_X3_readOne (Qi n R (P10 I0 L Q))) 27 [(0, .ref 312), (2, .int v2), (3, .int v3)] [] n I L R 0 0 := by
  intro N
  induction N with
  | zero => intro v3 I h; exact False.elim h
  | succ N ih =>
    intro v3 I h
    unfold lp_X3_readOne_27 at h
    refine x_iload_n dX3_readOne_27 rfl ?_
    refine x_iload_n dX3_readOne_28 rfl ?_
    refine x_cSi00 [.int v2] (mt_X7_numbersOf hn hG h) dX3_readOne_29 lk_RX3_58 rfl rfl (Nat.le_of_ble_eq_true rfl) (Rf_of rfl) (fun x6 h => ?_)
    refine x_icmp_ge dX3_readOne_32 (tgt := 58) rfl ⟨fun c7 => ?_, fun c7 => ?_⟩
    · have h := h.1 c7
      refine x_ls (ls' := [(0, .ref 312), (2, .int v2)]) [0, 1] rfl ?_
      exact hK58 I h
    · have h := h.2 c7
      refine x_aload_n dX3_readOne_35 rfl ?_
      refine x_iload_n dX3_readOne_36 rfl ?_
      refine x_iload_n dX3_readOne_37 rfl ?_
      refine x_cVi10 [.int v2, .int v3] (mt_X3_readNumber hn hG hB h) dX3_readOne_38 lk_RX3_62 (kl rfl hn) sh_312 rfl rfl (Nat.le_of_ble_eq_true rfl) (Rf_of rfl) (fun x8 I9 h => ?_)
      refine x_istore (ls' := [(4, .int x8), (0, .ref 312), (2, .int v2), (3, .int v3)]) dX3_readOne_41 (Nat.le_of_ble_eq_true rfl) rfl ?_
      refine x_iload dX3_readOne_43 rfl ?_
      refine x_iconst (v := (-1)) dX3_readOne_45 ki_m1 ?_
      refine x_icmp_eq dX3_readOne_46 (tgt := 52) rfl ⟨fun c10 => ?_, fun c10 => ?_⟩
      · have h := h.1 c10
        refine x_iinc (v := v3 + 1) (ls' := [(3, .int (v3 + 1)), (4, .int x8), (0, .ref 312), (2, .int v2)]) dX3_readOne_52 rfl (congrArg (_ + ·) ki_1) (Nat.le_of_ble_eq_true rfl) rfl ?_
        refine x_goto dX3_readOne_55 (tgt := 27) rfl ?_
        refine x_ls (ls' := [(0, .ref 312), (2, .int v2), (3, .int (v3 + 1))]) [2, 3, 0] rfl ?_
        exact ih (v3 + 1) I9 h
      · have h := h.2 c10
        refine x_iload dX3_readOne_49 rfl ?_
        exact x_ireturn dX3_readOne_51 ⟨_, rfl, rfl, rfl, rfl, h⟩
def wp_X3_readOne (I : MI) (Q : Int32 → MI → Prop) : Prop :=
    (wp_X3_readWord I (fun x1 I2 => (((x1 = (-1) → Q (I 312 4) I2) ∧ (¬ x1 = (-1) → (wp_X3_isOneTooMany I2 x1 (fun x4 => (((x4 = 0 → (∃ N11, lp_X3_readOne_27 x1 Q (fun I12 => (wp_X3_skipGaps I12 (fun I13 => ((((I13 312 3) ≤ (I13 312 4) → Q (I13 312 4) I13) ∧ (¬ (I13 312 3) ≤ (I13 312 4) → (vp_in (I13 312 4) 400 ∧ (((I13 1 (ix (I13 312 4))) = 59 → (∀ I17, I17 = u2 I13 312 4 ((I13 312 4) + 1) → (wp_X3_take I17 x1 (fun I18 => (Q (-1) I18))))) ∧ (¬ (I13 1 (ix (I13 312 4))) = 59 → Q (I13 312 4) I13))))))))) N11 0 I2)) ∧ (¬ x4 = 0 → Q (I 312 4) I2))))))))))
set_option maxRecDepth 20000 in
theorem mt_X3_readOne {E : Ev} {l : Launch} {n : Nat} {R : MR} (hn : 336 ≤ n) (hG : GRx R) (hB : R 312 2 = some 1) {I : MI} {L : ML} {Q : Int32 → MI → Prop} (h : wp_X3_readOne I Q) : MX E l rm_X3_readOne yX3_readOne cX3_readOne 5 (some .int) [.ref 312] n I L R (Qi n R (P10 I L Q)) := by
  refine MX_of (ls := [(0, .ref 312)]) (by decide) (Nat.le_of_ble_eq_true rfl) rfl ?_
  unfold wp_X3_readOne at h
  refine x_aload_n dX3_readOne_0 rfl ?_
  refine x_geti dX3_readOne_1 fk_RX3_32 (kl rfl hn) sh_312 ?_
  refine x_istore_n (ls' := [(1, .int (I 312 4)), (0, .ref 312)]) dX3_readOne_4 (Nat.le_of_ble_eq_true rfl) rfl ?_
  refine x_aload_n dX3_readOne_5 rfl ?_
  refine x_cVi10 [] (mt_X3_readWord hn hG hB h) dX3_readOne_6 lk_RX3_51 (kl rfl hn) sh_312 rfl rfl (Nat.le_of_ble_eq_true rfl) (Rf_of rfl) (fun x1 I2 h => ?_)
  refine x_istore_n (ls' := [(2, .int x1), (1, .int (I 312 4)), (0, .ref 312)]) dX3_readOne_9 (Nat.le_of_ble_eq_true rfl) rfl ?_
  refine x_iload_n dX3_readOne_10 rfl ?_
  refine x_iconst (v := (-1)) dX3_readOne_11 ki_m1 ?_
  refine x_icmp_eq dX3_readOne_12 (tgt := 23) rfl ⟨fun c3 => ?_, fun c3 => ?_⟩
  · have h := h.1 c3
    refine x_iload_n dX3_readOne_23 rfl ?_
    exact x_ireturn dX3_readOne_24 ⟨_, rfl, rfl, rfl, rfl, h⟩
  · have h := h.2 c3
    refine x_aload_n dX3_readOne_15 rfl ?_
    refine x_iload_n dX3_readOne_16 rfl ?_
    refine x_cVi00 [.int x1] (mt_X3_isOneTooMany hn hG h) dX3_readOne_17 lk_RX3_54 (kl rfl hn) sh_312 rfl rfl (Nat.le_of_ble_eq_true rfl) (Rf_of rfl) (fun x4 h => ?_)
    refine x_if_eq dX3_readOne_20 (tgt := 25) rfl ⟨fun c5 => ?_, fun c5 => ?_⟩
    · have h := h.1 c5
      refine x_iconst (v := 0) dX3_readOne_25 ki_0 ?_
      refine x_istore_n (ls' := [(3, .int 0), (2, .int x1), (1, .int (I 312 4)), (0, .ref 312)]) dX3_readOne_26 (Nat.le_of_ble_eq_true rfl) rfl ?_
      refine x_ls (ls' := [(0, .ref 312), (2, .int x1), (3, .int 0)]) [3, 1, 0] rfl ?_
      obtain ⟨N11, h⟩ := h
      refine lpt_X3_readOne_27 hn hG hB (fun I12 h => ?_) N11 0 I2 h
      refine x_aload_n dX3_readOne_58 rfl ?_
      refine x_cVv10 [] (mt_X3_skipGaps hn hG hB h) dX3_readOne_59 lk_RX3_44 (kl rfl hn) sh_312 rfl rfl (Nat.le_of_ble_eq_true rfl) (Rf_of rfl) (fun I13 h => ?_)
      refine x_aload_n dX3_readOne_62 rfl ?_
      refine x_geti dX3_readOne_63 fk_RX3_32 (kl rfl hn) sh_312 ?_
      refine x_aload_n dX3_readOne_66 rfl ?_
      refine x_geti dX3_readOne_67 fk_RX3_28 (kl rfl hn) sh_312 ?_
      refine x_icmp_ge dX3_readOne_70 (tgt := 87) rfl ⟨fun c14 => ?_, fun c14 => ?_⟩
      · have h := h.1 c14
        refine x_aload_n dX3_readOne_87 rfl ?_
        refine x_geti dX3_readOne_88 fk_RX3_32 (kl rfl hn) sh_312 ?_
        exact x_ireturn dX3_readOne_91 ⟨_, rfl, rfl, rfl, rfl, h⟩
      · have h := h.2 c14
        refine x_aload_n dX3_readOne_73 rfl ?_
        refine x_getr (j := 1) dX3_readOne_74 fk_RX3_24 (kl rfl hn) sh_312 hB ?_
        refine x_aload_n dX3_readOne_77 rfl ?_
        refine x_geti dX3_readOne_78 fk_RX3_32 (kl rfl hn) sh_312 ?_
        obtain ⟨b15, h⟩ := h
        refine x_baload dX3_readOne_81 (kl rfl hn) sh_1 b15 ?_
        refine x_bipush (v := 59) dX3_readOne_82 kb_59 ?_
        refine x_icmp_eq dX3_readOne_84 (tgt := 92) rfl ⟨fun c16 => ?_, fun c16 => ?_⟩
        · have h := h.1 c16
          refine x_aload_n dX3_readOne_92 rfl ?_
          refine x_dup dX3_readOne_93 rfl ?_
          refine x_geti dX3_readOne_94 fk_RX3_32 (kl rfl hn) sh_312 ?_
          refine x_iconst (v := 1) dX3_readOne_97 ki_1 ?_
          refine x_iadd dX3_readOne_98 ?_
          refine x_puti dX3_readOne_99 fk_RX3_32 fw_3_4 (vp_nar_int _) rfl (kl rfl hn) sh_312 (fun I17 eI17 => ?_)
          have h := h I17 eI17
          refine x_aload_n dX3_readOne_102 rfl ?_
          refine x_iload_n dX3_readOne_103 rfl ?_
          refine x_cVv10 [.int x1] (mt_X3_take hn hG h) dX3_readOne_104 lk_RX3_65 (kl rfl hn) sh_312 rfl rfl (Nat.le_of_ble_eq_true rfl) (Rf_of rfl) (fun I18 h => ?_)
          refine x_iconst (v := (-1)) dX3_readOne_107 ki_m1 ?_
          exact x_ireturn dX3_readOne_108 ⟨_, rfl, rfl, rfl, rfl, h⟩
        · have h := h.2 c16
          refine x_aload_n dX3_readOne_87 rfl ?_
          refine x_geti dX3_readOne_88 fk_RX3_32 (kl rfl hn) sh_312 ?_
          exact x_ireturn dX3_readOne_91 ⟨_, rfl, rfl, rfl, rfl, h⟩
    · have h := h.2 c5
      refine x_iload_n dX3_readOne_23 rfl ?_
      exact x_ireturn dX3_readOne_24 ⟨_, rfl, rfl, rfl, rfl, h⟩
abbrev rm_X3_readAll : Room := { frames := 7, cells := 0, slots := 0, locals := 154 }
def lp_X3_readAll_29 (Q : Int32 → MI → Prop) : Nat → Int32 → MI → Prop
  | 0, _, _ => False
  | n + 1, v3, I =>
    (((I 312 3) < v3 → Q (-1) I) ∧ (¬ (I 312 3) < v3 → (wp_X3_skipGaps I (fun I5 => ((((I5 312 4) < (I5 312 3) → (wp_X3_readOne I5 (fun x7 I8 => (((x7 = (-1) → (lp_X3_readAll_29 Q n (v3 + 1) I8)) ∧ (¬ x7 = (-1) → Q x7 I8)))))) ∧ (¬ (I5 312 4) < (I5 312 3) → Q (-1) I5)))))))
set_option maxRecDepth 20000 in
theorem lpt_X3_readAll_29 {E : Ev} {l : Launch} {n : Nat} {R : MR} (hn : 336 ≤ n) (hG : GRx R) {I0 : MI} {Q : Int32 → MI → Prop} {L : ML} : ∀ (N : Nat) (v3 : Int32) (I : MI), lp_X3_readAll_29 Q N v3 I → X E l rm_X3_readAll yX3_readAll cX3_readAll 5 (some .int) noX (ZM E rm_X3_readAll (Qi n (u2 R 312 2 (some 1)) (P10 I0 L Q))) 29 [(0, .ref 312), (3, .int v3)] [] n I L (u2 R 312 2 (some 1)) 0 0 := by
  intro N
  induction N with
  | zero => intro v3 I h; exact False.elim h
  | succ N ih =>
    intro v3 I h
    unfold lp_X3_readAll_29 at h
    refine x_iload_n dX3_readAll_29 rfl ?_
    refine x_aload_n dX3_readAll_30 rfl ?_
    refine x_geti dX3_readAll_31 fk_RX3_28 (kl rfl hn) sh_312 ?_
    refine x_icmp_gt dX3_readAll_34 (tgt := 75) rfl ⟨fun c4 => ?_, fun c4 => ?_⟩
    · have h := h.1 c4
      refine x_iconst (v := (-1)) dX3_readAll_75 ki_m1 ?_
      exact x_ireturn dX3_readAll_76 ⟨_, rfl, rfl, rfl, rfl, h⟩
    · have h := h.2 c4
      refine x_aload_n dX3_readAll_37 rfl ?_
      refine x_cVv10 [] (mt_X3_skipGaps hn (GRx_b hG) u2_s h) dX3_readAll_38 lk_RX3_44 (kl rfl hn) sh_312 rfl rfl (Nat.le_of_ble_eq_true rfl) (Rf_of rfl) (fun I5 h => ?_)
      refine x_aload_n dX3_readAll_41 rfl ?_
      refine x_geti dX3_readAll_42 fk_RX3_32 (kl rfl hn) sh_312 ?_
      refine x_aload_n dX3_readAll_45 rfl ?_
      refine x_geti dX3_readAll_46 fk_RX3_28 (kl rfl hn) sh_312 ?_
      refine x_icmp_lt dX3_readAll_49 (tgt := 54) rfl ⟨fun c6 => ?_, fun c6 => ?_⟩
      · have h := h.1 c6
        refine x_aload_n dX3_readAll_54 rfl ?_
        refine x_cVi10 [] (mt_X3_readOne hn (GRx_b hG) u2_s h) dX3_readAll_55 lk_RX3_47 (kl rfl hn) sh_312 rfl rfl (Nat.le_of_ble_eq_true rfl) (Rf_of rfl) (fun x7 I8 h => ?_)
        refine x_istore (ls' := [(4, .int x7), (0, .ref 312), (3, .int v3)]) dX3_readAll_58 (Nat.le_of_ble_eq_true rfl) rfl ?_
        refine x_iload dX3_readAll_60 rfl ?_
        refine x_iconst (v := (-1)) dX3_readAll_62 ki_m1 ?_
        refine x_icmp_eq dX3_readAll_63 (tgt := 69) rfl ⟨fun c9 => ?_, fun c9 => ?_⟩
        · have h := h.1 c9
          refine x_iinc (v := v3 + 1) (ls' := [(3, .int (v3 + 1)), (4, .int x7), (0, .ref 312)]) dX3_readAll_69 rfl (congrArg (_ + ·) ki_1) (Nat.le_of_ble_eq_true rfl) rfl ?_
          refine x_goto dX3_readAll_72 (tgt := 29) rfl ?_
          refine x_ls (ls' := [(0, .ref 312), (3, .int (v3 + 1))]) [2, 0] rfl ?_
          exact ih (v3 + 1) I8 h
        · have h := h.2 c9
          refine x_iload dX3_readAll_66 rfl ?_
          exact x_ireturn dX3_readAll_68 ⟨_, rfl, rfl, rfl, rfl, h⟩
      · have h := h.2 c6
        refine x_iconst (v := (-1)) dX3_readAll_52 ki_m1 ?_
        exact x_ireturn dX3_readAll_53 ⟨_, rfl, rfl, rfl, rfl, h⟩
def wp_X3_readAll (I : MI) (v2 : Int32) (Q : Int32 → MI → Prop) : Prop :=
    (∀ I1, I1 = u2 I 312 3 (if 400 < v2 then 400 else v2) → (∀ I2, I2 = u2 I1 312 4 0 → (wp_X1_clear 313 I2 (fun I3 => ((∃ N10, lp_X3_readAll_29 Q N10 0 I3))))))
set_option maxRecDepth 20000 in
theorem mt_X3_readAll {E : Ev} {l : Launch} {n : Nat} {R : MR} (hn : 336 ≤ n) (hG : GRx R) {I : MI} {L : ML} {v2 : Int32} {Q : Int32 → MI → Prop} (h : wp_X3_readAll I v2 Q) : MX E l rm_X3_readAll yX3_readAll cX3_readAll 5 (some .int) [.ref 312, .ref 1, .int v2] n I L R (Qi n (u2 R 312 2 (some 1)) (P10 I L Q)) := by
  refine MX_of (ls := [(0, .ref 312), (1, .ref 1), (2, .int v2)]) (by decide) (Nat.le_of_ble_eq_true rfl) rfl ?_
  unfold wp_X3_readAll at h
  refine x_aload_n dX3_readAll_0 rfl ?_
  refine x_aload_n dX3_readAll_1 rfl ?_
  refine x_putr dX3_readAll_2 fk_RX3_24 fw_3_2 rfl rfl (kl rfl hn) sh_312 ?_
  refine x_aload_n dX3_readAll_5 rfl ?_
  refine x_iload_n dX3_readAll_6 rfl ?_
  refine x_aload_n dX3_readAll_7 rfl ?_
  refine x_alen (v := 400) dX3_readAll_8 (kl rfl hn) sh_1 (by decide) rfl ?_
  refine x_mmin dX3_readAll_9 lk_RX3_35 ⟨Nat.le_of_ble_eq_true rfl, Nat.le_of_ble_eq_true rfl, Nat.le_refl _, Nat.le_refl _⟩ ?_
  refine x_puti dX3_readAll_12 fk_RX3_28 fw_3_3 (vp_nar_int _) rfl (kl rfl hn) sh_312 (fun I1 eI1 => ?_)
  have h := h I1 eI1
  refine x_aload_n dX3_readAll_15 rfl ?_
  refine x_iconst (v := 0) dX3_readAll_16 ki_0 ?_
  refine x_puti dX3_readAll_17 fk_RX3_32 fw_3_4 (vp_nar_int _) rfl (kl rfl hn) sh_312 (fun I2 eI2 => ?_)
  have h := h I2 eI2
  refine x_aload_n dX3_readAll_20 rfl ?_
  refine x_getr (j := 313) dX3_readAll_21 fk_RX3_12 (kl rfl hn) sh_312 (rt_312_0 (GRx_b hG)) ?_
  refine x_cVv10 [] (mt_X1_clear hn (GRx_b hG) plan_313 h) dX3_readAll_24 lk_RX3_41 (Pn_k plan_313 hn 0 rfl) (Pn_s0 plan_313) rfl rfl (Nat.le_of_ble_eq_true rfl) (Rf_of rfl) (fun I3 h => ?_)
  refine x_iconst (v := 0) dX3_readAll_27 ki_0 ?_
  refine x_istore_n (ls' := [(3, .int 0), (0, .ref 312), (1, .ref 1), (2, .int v2)]) dX3_readAll_28 (Nat.le_of_ble_eq_true rfl) rfl ?_
  refine x_ls (ls' := [(0, .ref 312), (3, .int 0)]) [1, 0] rfl ?_
  obtain ⟨N10, h⟩ := h
  exact lpt_X3_readAll_29 hn hG  N10 0 I3 h
abbrev rm_X6_put : Room := { frames := 0, cells := 0, slots := 0, locals := 0 }
def wp_X6_put (I : MI) (v1 : Int32) (Q : MI → Prop) : Prop :=
    ((256 ≤ (I 324 1) → Q I) ∧ (¬ 256 ≤ (I 324 1) → (vp_in (I 324 1) 256 ∧ (∀ I3, I3 = u2 I 325 (ix (I 324 1)) (vp_nar .byte v1.toInt8.toInt32) → (∀ I4, I4 = u2 I3 324 1 ((I3 324 1) + 1) → Q I4)))))
set_option maxRecDepth 20000 in
theorem mt_X6_put {E : Ev} {l : Launch} {n : Nat} {R : MR} (hn : 336 ≤ n) (hG : GRx R) {I : MI} {L : ML} {v1 : Int32} {Q : MI → Prop} (h : wp_X6_put I v1 Q) : MX E l rm_X6_put yX6_put cX6_put 2 none [.ref 324, .int v1] n I L R (Qv n R (V10 I L Q)) := by
  refine MX_of (ls := [(0, .ref 324), (1, .int v1)]) (by decide) (Nat.le_of_ble_eq_true rfl) rfl ?_
  unfold wp_X6_put at h
  refine x_aload_n dX6_put_0 rfl ?_
  refine x_geti dX6_put_1 fk_RX6_15 (kl rfl hn) sh_324 ?_
  refine x_aload_n dX6_put_4 rfl ?_
  refine x_getr (j := 325) dX6_put_5 fk_RX6_9 (kl rfl hn) sh_324 (rt_324_0 hG) ?_
  refine x_alen (v := 256) dX6_put_8 (kl rfl hn) sh_325 (by decide) rfl ?_
  refine x_icmp_ge dX6_put_9 (tgt := 33) rfl ⟨fun c1 => ?_, fun c1 => ?_⟩
  · have h := h.1 c1
    exact x_return dX6_put_33 ⟨rfl, rfl, rfl, rfl, h⟩
  · have h := h.2 c1
    refine x_aload_n dX6_put_12 rfl ?_
    refine x_getr (j := 325) dX6_put_13 fk_RX6_9 (kl rfl hn) sh_324 (rt_324_0 hG) ?_
    refine x_aload_n dX6_put_16 rfl ?_
    refine x_geti dX6_put_17 fk_RX6_15 (kl rfl hn) sh_324 ?_
    refine x_iload_n dX6_put_20 rfl ?_
    refine x_i2b dX6_put_21 ?_
    obtain ⟨b2, h⟩ := h
    refine x_bastore dX6_put_22 (kl rfl hn) sh_325 b2 (fun I3 eI3 => ?_)
    have h := h I3 eI3
    refine x_aload_n dX6_put_23 rfl ?_
    refine x_dup dX6_put_24 rfl ?_
    refine x_geti dX6_put_25 fk_RX6_15 (kl rfl hn) sh_324 ?_
    refine x_iconst (v := 1) dX6_put_28 ki_1 ?_
    refine x_iadd dX6_put_29 ?_
    refine x_puti dX6_put_30 fk_RX6_15 fw_5_1 (vp_nar_int _) rfl (kl rfl hn) sh_324 (fun I4 eI4 => ?_)
    have h := h I4 eI4
    exact x_return dX6_put_33 ⟨rfl, rfl, rfl, rfl, h⟩
abbrev rm_X6_putNumber : Room := { frames := 1, cells := 0, slots := 0, locals := 21 }
def jn_X6_putNumber_26 (I : MI) (v1 : Int32) (Q : MI → Prop) : Prop :=
    (wp_X6_put I (48 + (v1 - v1 / 10 * 10)) (fun I3 => (Q I3)))
set_option maxRecDepth 20000 in
theorem jnt_X6_putNumber_26 {E : Ev} {l : Launch} {n : Nat} {R : MR} (hn : 336 ≤ n) (hG : GRx R) {I0 : MI} {Q : MI → Prop} {I : MI} {L : ML} {v1 : Int32} (h : jn_X6_putNumber_26 I v1 Q) : X E l rm_X6_putNumber yX6_putNumber cX6_putNumber 2 none noX (ZM E rm_X6_putNumber (Qv n R (V10 I0 L Q))) 26 [(0, .ref 324), (1, .int v1)] [] n I L R 0 0 := by
  unfold jn_X6_putNumber_26 at h
  refine x_aload_n dX6_putNumber_26 rfl ?_
  refine x_bipush (v := 48) dX6_putNumber_27 kb_48 ?_
  refine x_iload_n dX6_putNumber_29 rfl ?_
  refine x_bipush (v := 10) dX6_putNumber_30 kb_10 ?_
  refine x_irem dX6_putNumber_32 (by decide) ?_
  refine x_iadd dX6_putNumber_33 ?_
  refine x_cVv10 [.int (48 + (v1 - v1 / 10 * 10))] (mt_X6_put hn hG h) dX6_putNumber_34 lk_RX6_60 (kl rfl hn) sh_324 rfl rfl (Nat.le_of_ble_eq_true rfl) (Rf_of rfl) (fun I3 h => ?_)
  exact x_return dX6_putNumber_37 ⟨rfl, rfl, rfl, rfl, h⟩
def wp_X6_putNumber (I : MI) (v1 : Int32) (Q : MI → Prop) : Prop :=
    (wp_X6_put I 32 (fun I1 => (((v1 < 10 → (jn_X6_putNumber_26 I1 v1 Q)) ∧ (¬ v1 < 10 → (wp_X6_put I1 (48 + ((v1 / 10) - (v1 / 10) / 10 * 10)) (fun I4 => ((jn_X6_putNumber_26 I4 v1 Q)))))))))
set_option maxRecDepth 20000 in
theorem mt_X6_putNumber {E : Ev} {l : Launch} {n : Nat} {R : MR} (hn : 336 ≤ n) (hG : GRx R) {I : MI} {L : ML} {v1 : Int32} {Q : MI → Prop} (h : wp_X6_putNumber I v1 Q) : MX E l rm_X6_putNumber yX6_putNumber cX6_putNumber 2 none [.ref 324, .int v1] n I L R (Qv n R (V10 I L Q)) := by
  refine MX_of (ls := [(0, .ref 324), (1, .int v1)]) (by decide) (Nat.le_of_ble_eq_true rfl) rfl ?_
  unfold wp_X6_putNumber at h
  refine x_aload_n dX6_putNumber_0 rfl ?_
  refine x_bipush (v := 32) dX6_putNumber_1 kb_32 ?_
  refine x_cVv10 [.int 32] (mt_X6_put hn hG h) dX6_putNumber_3 lk_RX6_60 (kl rfl hn) sh_324 rfl rfl (Nat.le_of_ble_eq_true rfl) (Rf_of rfl) (fun I1 h => ?_)
  refine x_iload_n dX6_putNumber_6 rfl ?_
  refine x_bipush (v := 10) dX6_putNumber_7 kb_10 ?_
  refine x_icmp_lt dX6_putNumber_9 (tgt := 26) rfl ⟨fun c2 => ?_, fun c2 => ?_⟩
  · have h := h.1 c2
    exact jnt_X6_putNumber_26 hn hG  h
  · have h := h.2 c2
    refine x_aload_n dX6_putNumber_12 rfl ?_
    refine x_bipush (v := 48) dX6_putNumber_13 kb_48 ?_
    refine x_iload_n dX6_putNumber_15 rfl ?_
    refine x_bipush (v := 10) dX6_putNumber_16 kb_10 ?_
    refine x_idiv dX6_putNumber_18 (by decide) ?_
    refine x_bipush (v := 10) dX6_putNumber_19 kb_10 ?_
    refine x_irem dX6_putNumber_21 (by decide) ?_
    refine x_iadd dX6_putNumber_22 ?_
    refine x_cVv10 [.int (48 + ((v1 / 10) - (v1 / 10) / 10 * 10))] (mt_X6_put hn hG h) dX6_putNumber_23 lk_RX6_60 (kl rfl hn) sh_324 rfl rfl (Nat.le_of_ble_eq_true rfl) (Rf_of rfl) (fun I4 h => ?_)
    exact jnt_X6_putNumber_26 hn hG  h
abbrev rm_X6_putWord : Room := { frames := 4, cells := 0, slots := 0, locals := 85 }
def lp_X6_putWord_7 (v2 : Nat) (Q : MI → Prop) : Nat → Int32 → MI → Prop
  | 0, _, _ => False
  | n + 1, v3, I =>
    (isTxt v2 ∧ (((nI (tLen v2)) ≤ v3 → Q I) ∧ (¬ (nI (tLen v2)) ≤ v3 → (isTxt v2 ∧ (vp_in v3 (tLen v2) ∧ (wp_X6_put I (tAt v2 (ix v3)) (fun I8 => ((lp_X6_putWord_7 v2 Q n (v3 + 1) I8)))))))))
set_option maxRecDepth 20000 in
theorem lpt_X6_putWord_7 {E : Ev} {l : Launch} {n : Nat} {R : MR} (hn : 336 ≤ n) (hG : GRx R) {I0 : MI} {Q : MI → Prop} {v2 : Nat} {L : ML} : ∀ (N : Nat) (v3 : Int32) (I : MI), lp_X6_putWord_7 v2 Q N v3 I → X E l rm_X6_putWord yX6_putWord cX6_putWord 4 none noX (ZM E rm_X6_putWord (Qv n R (V10 I0 L Q))) 7 [(0, .ref 324), (2, .ref v2), (3, .int v3)] [] n I L R 0 0 := by
  intro N
  induction N with
  | zero => intro v3 I h; exact False.elim h
  | succ N ih =>
    intro v3 I h
    unfold lp_X6_putWord_7 at h
    refine x_iload_n dX6_putWord_7 rfl ?_
    refine x_aload_n dX6_putWord_8 rfl ?_
    obtain ⟨b2, h⟩ := h
    refine x_cT [] (mt_len b2) dX6_putWord_9 lj_RX6_95 cal_J0_length_8abf5 ins_J0_length_8abf5 rfl b2 rfl rfl (Nat.le_of_ble_eq_true rfl) (Rf_of rfl) (fun x3 ex3 => ?_)
    subst ex3
    refine x_icmp_ge dX6_putWord_12 (tgt := 30) rfl ⟨fun c4 => ?_, fun c4 => ?_⟩
    · have h := h.1 c4
      exact x_return dX6_putWord_30 ⟨rfl, rfl, rfl, rfl, h⟩
    · have h := h.2 c4
      refine x_aload_n dX6_putWord_15 rfl ?_
      refine x_aload_n dX6_putWord_16 rfl ?_
      refine x_iload_n dX6_putWord_17 rfl ?_
      obtain ⟨b5, b6, h⟩ := h
      refine x_cT [.int v3] (mt_chat b5 b6) dX6_putWord_18 lj_RX6_100 cal_J0_charAt_5068e ins_J0_charAt_5068e rfl b5 rfl rfl (Nat.le_of_ble_eq_true rfl) (Rf_of rfl) (fun x7 ex7 => ?_)
      subst ex7
      refine x_cVv10 [.int (tAt v2 (ix v3))] (mt_X6_put hn hG h) dX6_putWord_21 lk_RX6_60 (kl rfl hn) sh_324 rfl rfl (Nat.le_of_ble_eq_true rfl) (Rf_of rfl) (fun I8 h => ?_)
      refine x_iinc (v := v3 + 1) (ls' := [(3, .int (v3 + 1)), (0, .ref 324), (2, .ref v2)]) dX6_putWord_24 rfl (congrArg (_ + ·) ki_1) (Nat.le_of_ble_eq_true rfl) rfl ?_
      refine x_goto dX6_putWord_27 (tgt := 7) rfl ?_
      refine x_ls (ls' := [(0, .ref 324), (2, .ref v2), (3, .int (v3 + 1))]) [1, 2, 0] rfl ?_
      exact ih (v3 + 1) I8 h
def wp_X6_putWord (I : MI) (v1 : Int32) (Q : MI → Prop) : Prop :=
    (wp_X7_spelled v1 (fun x1 => ((∃ N9, lp_X6_putWord_7 x1 Q N9 0 I))))
set_option maxRecDepth 20000 in
theorem mt_X6_putWord {E : Ev} {l : Launch} {n : Nat} {R : MR} (hn : 336 ≤ n) (hG : GRx R) {I : MI} {L : ML} {v1 : Int32} {Q : MI → Prop} (h : wp_X6_putWord I v1 Q) : MX E l rm_X6_putWord yX6_putWord cX6_putWord 4 none [.ref 324, .int v1] n I L R (Qv n R (V10 I L Q)) := by
  refine MX_of (ls := [(0, .ref 324), (1, .int v1)]) (by decide) (Nat.le_of_ble_eq_true rfl) rfl ?_
  unfold wp_X6_putWord at h
  refine x_iload_n dX6_putWord_0 rfl ?_
  refine x_cSa00 [.int v1] (mt_X7_spelled hn hG h) dX6_putWord_1 lk_RX6_91 rfl rfl (Nat.le_of_ble_eq_true rfl) (Rf_of rfl) (fun x1 h => ?_)
  refine x_astore_n (ls' := [(2, .ref x1), (0, .ref 324), (1, .int v1)]) dX6_putWord_4 (Nat.le_of_ble_eq_true rfl) rfl ?_
  refine x_iconst (v := 0) dX6_putWord_5 ki_0 ?_
  refine x_istore_n (ls' := [(3, .int 0), (2, .ref x1), (0, .ref 324), (1, .int v1)]) dX6_putWord_6 (Nat.le_of_ble_eq_true rfl) rfl ?_
  refine x_ls (ls' := [(0, .ref 324), (2, .ref x1), (3, .int 0)]) [2, 1, 0] rfl ?_
  obtain ⟨N9, h⟩ := h
  exact lpt_X6_putWord_7 hn hG  N9 0 I h
abbrev rm_X6_writeCells : Room := { frames := 5, cells := 0, slots := 0, locals := 108 }
def jn_X6_writeCells_121 (I : MI) (v3 : Int32) (kj17 : Int32 → MI → Prop) : Prop :=
    kj17 (v3 + 1) I
set_option maxRecDepth 20000 in
theorem jnt_X6_writeCells_121 {E : Ev} {l : Launch} {n : Nat} {R : MR} {p1 : Nat} (hn : 336 ≤ n) (hG : GRx R) (hp1 : isPlan p1) {I0 : MI} {Q : MI → Prop} {I : MI} {L : ML} {v2 : Int32} {v3 : Int32} {kj17 : Int32 → MI → Prop}
    (hJ17 : ∀ (v3 : Int32) (I : MI), kj17 v3 I → X E l rm_X6_writeCells yX6_writeCells cX6_writeCells 5 none noX (ZM E rm_X6_writeCells (Qv n R (V10 I0 L Q))) 17 [(0, .ref 324), (1, .ref p1), (2, .int v2), (3, .int v3)] [] n I L R 0 0) (h : jn_X6_writeCells_121 I v3 kj17) : X E l rm_X6_writeCells yX6_writeCells cX6_writeCells 5 none noX (ZM E rm_X6_writeCells (Qv n R (V10 I0 L Q))) 121 [(0, .ref 324), (1, .ref p1), (2, .int v2), (3, .int v3)] [] n I L R 0 0 := by
  unfold jn_X6_writeCells_121 at h
  refine x_iinc (v := v3 + 1) (ls' := [(3, .int (v3 + 1)), (0, .ref 324), (1, .ref p1), (2, .int v2)]) dX6_writeCells_121 rfl (congrArg (_ + ·) ki_1) (Nat.le_of_ble_eq_true rfl) rfl ?_
  refine x_goto dX6_writeCells_124 (tgt := 17) rfl ?_
  refine x_ls (ls' := [(0, .ref 324), (1, .ref p1), (2, .int v2), (3, .int (v3 + 1))]) [1, 2, 3, 0] rfl ?_
  exact hJ17 (v3 + 1) I h
def jn_X6_writeCells_67 (p1 : Nat) (I : MI) (v2 : Int32) (v3 : Int32) (v4 : Int32) (kj17 : Int32 → MI → Prop) : Prop :=
    (wp_X6_putWord I 5 (fun I8 => ((wp_X6_putNumber I8 v2 (fun I9 => ((wp_X6_putNumber I9 v3 (fun I10 => ((vp_in v4 16 ∧ (wp_X6_putNumber I10 (I10 (p1 + 6) (ix v4)) (fun I12 => ((vp_in v4 16 ∧ (wp_X6_putNumber I12 (I12 (p1 + 7) (ix v4)) (fun I14 => ((vp_in v4 16 ∧ (wp_X6_putNumber I14 (I14 (p1 + 8) (ix v4)) (fun I16 => ((wp_X6_put I16 59 (fun I17 => ((jn_X6_writeCells_121 I17 v3 (fun x18 I19 => kj17 x18 I19))))))))))))))))))))))))))
set_option maxRecDepth 20000 in
theorem jnt_X6_writeCells_67 {E : Ev} {l : Launch} {n : Nat} {R : MR} {p1 : Nat} (hn : 336 ≤ n) (hG : GRx R) (hp1 : isPlan p1) {I0 : MI} {Q : MI → Prop} {I : MI} {L : ML} {v2 : Int32} {v3 : Int32} {v4 : Int32} {kj17 : Int32 → MI → Prop}
    (hJ17 : ∀ (v3 : Int32) (I : MI), kj17 v3 I → X E l rm_X6_writeCells yX6_writeCells cX6_writeCells 5 none noX (ZM E rm_X6_writeCells (Qv n R (V10 I0 L Q))) 17 [(0, .ref 324), (1, .ref p1), (2, .int v2), (3, .int v3)] [] n I L R 0 0) (h : jn_X6_writeCells_67 p1 I v2 v3 v4 kj17) : X E l rm_X6_writeCells yX6_writeCells cX6_writeCells 5 none noX (ZM E rm_X6_writeCells (Qv n R (V10 I0 L Q))) 67 [(0, .ref 324), (1, .ref p1), (2, .int v2), (3, .int v3), (4, .int v4)] [] n I L R 0 0 := by
  unfold jn_X6_writeCells_67 at h
  refine x_aload_n dX6_writeCells_67 rfl ?_
  refine x_iconst (v := 5) dX6_writeCells_68 ki_5 ?_
  refine x_cVv10 [.int 5] (mt_X6_putWord hn hG h) dX6_writeCells_69 lk_RX6_53 (kl rfl hn) sh_324 rfl rfl (Nat.le_of_ble_eq_true rfl) (Rf_of rfl) (fun I8 h => ?_)
  refine x_aload_n dX6_writeCells_72 rfl ?_
  refine x_iload_n dX6_writeCells_73 rfl ?_
  refine x_cVv10 [.int v2] (mt_X6_putNumber hn hG h) dX6_writeCells_74 lk_RX6_57 (kl rfl hn) sh_324 rfl rfl (Nat.le_of_ble_eq_true rfl) (Rf_of rfl) (fun I9 h => ?_)
  refine x_aload_n dX6_writeCells_77 rfl ?_
  refine x_iload_n dX6_writeCells_78 rfl ?_
  refine x_cVv10 [.int v3] (mt_X6_putNumber hn hG h) dX6_writeCells_79 lk_RX6_57 (kl rfl hn) sh_324 rfl rfl (Nat.le_of_ble_eq_true rfl) (Rf_of rfl) (fun I10 h => ?_)
  refine x_aload_n dX6_writeCells_82 rfl ?_
  refine x_aload_n dX6_writeCells_83 rfl ?_
  refine x_getr (j := p1 + 6) dX6_writeCells_84 fk_RX6_79 (Pn_k hp1 hn 0 rfl) (Pn_s0 hp1) (Pn_r10 hG hp1) ?_
  refine x_iload dX6_writeCells_87 rfl ?_
  obtain ⟨b11, h⟩ := h
  refine x_iaload dX6_writeCells_89 (Pn_k hp1 hn 6 rfl) (Pn_s6 hp1) b11 ?_
  refine x_cVv10 [.int (I10 (p1 + 6) (ix v4))] (mt_X6_putNumber hn hG h) dX6_writeCells_90 lk_RX6_57 (kl rfl hn) sh_324 rfl rfl (Nat.le_of_ble_eq_true rfl) (Rf_of rfl) (fun I12 h => ?_)
  refine x_aload_n dX6_writeCells_93 rfl ?_
  refine x_aload_n dX6_writeCells_94 rfl ?_
  refine x_getr (j := p1 + 7) dX6_writeCells_95 fk_RX6_82 (Pn_k hp1 hn 0 rfl) (Pn_s0 hp1) (Pn_r11 hG hp1) ?_
  refine x_iload dX6_writeCells_98 rfl ?_
  obtain ⟨b13, h⟩ := h
  refine x_iaload dX6_writeCells_100 (Pn_k hp1 hn 7 rfl) (Pn_s7 hp1) b13 ?_
  refine x_cVv10 [.int (I12 (p1 + 7) (ix v4))] (mt_X6_putNumber hn hG h) dX6_writeCells_101 lk_RX6_57 (kl rfl hn) sh_324 rfl rfl (Nat.le_of_ble_eq_true rfl) (Rf_of rfl) (fun I14 h => ?_)
  refine x_aload_n dX6_writeCells_104 rfl ?_
  refine x_aload_n dX6_writeCells_105 rfl ?_
  refine x_getr (j := p1 + 8) dX6_writeCells_106 fk_RX6_85 (Pn_k hp1 hn 0 rfl) (Pn_s0 hp1) (Pn_r12 hG hp1) ?_
  refine x_iload dX6_writeCells_109 rfl ?_
  obtain ⟨b15, h⟩ := h
  refine x_iaload dX6_writeCells_111 (Pn_k hp1 hn 8 rfl) (Pn_s8 hp1) b15 ?_
  refine x_cVv10 [.int (I14 (p1 + 8) (ix v4))] (mt_X6_putNumber hn hG h) dX6_writeCells_112 lk_RX6_57 (kl rfl hn) sh_324 rfl rfl (Nat.le_of_ble_eq_true rfl) (Rf_of rfl) (fun I16 h => ?_)
  refine x_aload_n dX6_writeCells_115 rfl ?_
  refine x_bipush (v := 59) dX6_writeCells_116 kb_59 ?_
  refine x_cVv10 [.int 59] (mt_X6_put hn hG h) dX6_writeCells_118 lk_RX6_60 (kl rfl hn) sh_324 rfl rfl (Nat.le_of_ble_eq_true rfl) (Rf_of rfl) (fun I17 h => ?_)
  refine x_ls (ls' := [(0, .ref 324), (1, .ref p1), (2, .int v2), (3, .int v3)]) [0, 1, 2, 3] rfl ?_
  refine jnt_X6_writeCells_121 hn hG hp1 (fun x18 I19 h => ?_) h
  exact hJ17 x18 I19 h
def lp_X6_writeCells_17 (p1 : Nat) (v2 : Int32) (kf127 : MI → Prop) : Nat → Int32 → MI → Prop
  | 0, _, _ => False
  | n + 1, v3, I =>
    (((I p1 0) ≤ v3 → kf127 I) ∧ (¬ (I p1 0) ≤ v3 → ((3 ≤ v3 → kf127 I) ∧ (¬ 3 ≤ v3 → (wp_X9_placeOf v2 v3 (fun x5 => ((vp_in x5 16 ∧ ((¬ (I (p1 + 6) (ix x5)) = 0 → (jn_X6_writeCells_67 p1 I v2 v3 x5 (fun x20 I21 => (lp_X6_writeCells_17 p1 v2 kf127 n x20 I21)))) ∧ ((I (p1 + 6) (ix x5)) = 0 → (vp_in x5 16 ∧ ((¬ (I (p1 + 7) (ix x5)) = 0 → (jn_X6_writeCells_67 p1 I v2 v3 x5 (fun x24 I25 => (lp_X6_writeCells_17 p1 v2 kf127 n x24 I25)))) ∧ ((I (p1 + 7) (ix x5)) = 0 → (vp_in x5 16 ∧ (((I (p1 + 8) (ix x5)) = 0 → (jn_X6_writeCells_121 I v3 (fun x28 I29 => (lp_X6_writeCells_17 p1 v2 kf127 n x28 I29)))) ∧ (¬ (I (p1 + 8) (ix x5)) = 0 → (jn_X6_writeCells_67 p1 I v2 v3 x5 (fun x30 I31 => (lp_X6_writeCells_17 p1 v2 kf127 n x30 I31)))))))))))))))))))
set_option maxRecDepth 20000 in
theorem lpt_X6_writeCells_17 {E : Ev} {l : Launch} {n : Nat} {R : MR} {p1 : Nat} (hn : 336 ≤ n) (hG : GRx R) (hp1 : isPlan p1) {I0 : MI} {Q : MI → Prop} {v2 : Int32} {L : ML} {kf127 : MI → Prop}
    (hK127 : ∀ (I : MI), kf127 I → X E l rm_X6_writeCells yX6_writeCells cX6_writeCells 5 none noX (ZM E rm_X6_writeCells (Qv n R (V10 I0 L Q))) 127 [(0, .ref 324), (1, .ref p1), (2, .int v2)] [] n I L R 0 0) : ∀ (N : Nat) (v3 : Int32) (I : MI), lp_X6_writeCells_17 p1 v2 kf127 N v3 I → X E l rm_X6_writeCells yX6_writeCells cX6_writeCells 5 none noX (ZM E rm_X6_writeCells (Qv n R (V10 I0 L Q))) 17 [(0, .ref 324), (1, .ref p1), (2, .int v2), (3, .int v3)] [] n I L R 0 0 := by
  intro N
  induction N with
  | zero => intro v3 I h; exact False.elim h
  | succ N ih =>
    intro v3 I h
    unfold lp_X6_writeCells_17 at h
    refine x_iload_n dX6_writeCells_17 rfl ?_
    refine x_aload_n dX6_writeCells_18 rfl ?_
    refine x_geti dX6_writeCells_19 fk_RX6_63 (Pn_k hp1 hn 0 rfl) (Pn_s0 hp1) ?_
    refine x_icmp_ge dX6_writeCells_22 (tgt := 127) rfl ⟨fun c3 => ?_, fun c3 => ?_⟩
    · have h := h.1 c3
      refine x_ls (ls' := [(0, .ref 324), (1, .ref p1), (2, .int v2)]) [0, 1, 2] rfl ?_
      exact hK127 I h
    · have h := h.2 c3
      refine x_iload_n dX6_writeCells_25 rfl ?_
      refine x_iconst (v := 3) dX6_writeCells_26 ki_3 ?_
      refine x_icmp_ge dX6_writeCells_27 (tgt := 127) rfl ⟨fun c4 => ?_, fun c4 => ?_⟩
      · have h := h.1 c4
        refine x_ls (ls' := [(0, .ref 324), (1, .ref p1), (2, .int v2)]) [0, 1, 2] rfl ?_
        exact hK127 I h
      · have h := h.2 c4
        refine x_iload_n dX6_writeCells_30 rfl ?_
        refine x_iload_n dX6_writeCells_31 rfl ?_
        refine x_cNi00 [.int v2, .int v3] (mt_X9_placeOf hn hG h) dX6_writeCells_32 lk_RX6_75 rfl rfl (Nat.le_of_ble_eq_true rfl) (Rf_of rfl) (fun x5 h => ?_)
        refine x_istore (ls' := [(4, .int x5), (0, .ref 324), (1, .ref p1), (2, .int v2), (3, .int v3)]) dX6_writeCells_35 (Nat.le_of_ble_eq_true rfl) rfl ?_
        refine x_aload_n dX6_writeCells_37 rfl ?_
        refine x_getr (j := p1 + 6) dX6_writeCells_38 fk_RX6_79 (Pn_k hp1 hn 0 rfl) (Pn_s0 hp1) (Pn_r10 hG hp1) ?_
        refine x_iload dX6_writeCells_41 rfl ?_
        obtain ⟨b6, h⟩ := h
        refine x_iaload dX6_writeCells_43 (Pn_k hp1 hn 6 rfl) (Pn_s6 hp1) b6 ?_
        refine x_if_ne dX6_writeCells_44 (tgt := 67) rfl ⟨fun c7 => ?_, fun c7 => ?_⟩
        · have h := h.1 c7
          refine x_ls (ls' := [(0, .ref 324), (1, .ref p1), (2, .int v2), (3, .int v3), (4, .int x5)]) [1, 2, 3, 4, 0] rfl ?_
          refine jnt_X6_writeCells_67 hn hG hp1 (fun x20 I21 h => ?_) h
          exact ih x20 I21 h
        · have h := h.2 c7
          refine x_aload_n dX6_writeCells_47 rfl ?_
          refine x_getr (j := p1 + 7) dX6_writeCells_48 fk_RX6_82 (Pn_k hp1 hn 0 rfl) (Pn_s0 hp1) (Pn_r11 hG hp1) ?_
          refine x_iload dX6_writeCells_51 rfl ?_
          obtain ⟨b22, h⟩ := h
          refine x_iaload dX6_writeCells_53 (Pn_k hp1 hn 7 rfl) (Pn_s7 hp1) b22 ?_
          refine x_if_ne dX6_writeCells_54 (tgt := 67) rfl ⟨fun c23 => ?_, fun c23 => ?_⟩
          · have h := h.1 c23
            refine x_ls (ls' := [(0, .ref 324), (1, .ref p1), (2, .int v2), (3, .int v3), (4, .int x5)]) [1, 2, 3, 4, 0] rfl ?_
            refine jnt_X6_writeCells_67 hn hG hp1 (fun x24 I25 h => ?_) h
            exact ih x24 I25 h
          · have h := h.2 c23
            refine x_aload_n dX6_writeCells_57 rfl ?_
            refine x_getr (j := p1 + 8) dX6_writeCells_58 fk_RX6_85 (Pn_k hp1 hn 0 rfl) (Pn_s0 hp1) (Pn_r12 hG hp1) ?_
            refine x_iload dX6_writeCells_61 rfl ?_
            obtain ⟨b26, h⟩ := h
            refine x_iaload dX6_writeCells_63 (Pn_k hp1 hn 8 rfl) (Pn_s8 hp1) b26 ?_
            refine x_if_eq dX6_writeCells_64 (tgt := 121) rfl ⟨fun c27 => ?_, fun c27 => ?_⟩
            · have h := h.1 c27
              refine x_ls (ls' := [(0, .ref 324), (1, .ref p1), (2, .int v2), (3, .int v3)]) [1, 2, 3, 4] rfl ?_
              refine jnt_X6_writeCells_121 hn hG hp1 (fun x28 I29 h => ?_) h
              exact ih x28 I29 h
            · have h := h.2 c27
              refine x_ls (ls' := [(0, .ref 324), (1, .ref p1), (2, .int v2), (3, .int v3), (4, .int x5)]) [1, 2, 3, 4, 0] rfl ?_
              refine jnt_X6_writeCells_67 hn hG hp1 (fun x30 I31 h => ?_) h
              exact ih x30 I31 h
def jn_X6_writeCells_127 (I : MI) (v2 : Int32) (kj2 : Int32 → MI → Prop) : Prop :=
    kj2 (v2 + 1) I
set_option maxRecDepth 20000 in
theorem jnt_X6_writeCells_127 {E : Ev} {l : Launch} {n : Nat} {R : MR} {p1 : Nat} (hn : 336 ≤ n) (hG : GRx R) (hp1 : isPlan p1) {I0 : MI} {Q : MI → Prop} {I : MI} {L : ML} {v2 : Int32} {kj2 : Int32 → MI → Prop}
    (hJ2 : ∀ (v2 : Int32) (I : MI), kj2 v2 I → X E l rm_X6_writeCells yX6_writeCells cX6_writeCells 5 none noX (ZM E rm_X6_writeCells (Qv n R (V10 I0 L Q))) 2 [(0, .ref 324), (1, .ref p1), (2, .int v2)] [] n I L R 0 0) (h : jn_X6_writeCells_127 I v2 kj2) : X E l rm_X6_writeCells yX6_writeCells cX6_writeCells 5 none noX (ZM E rm_X6_writeCells (Qv n R (V10 I0 L Q))) 127 [(0, .ref 324), (1, .ref p1), (2, .int v2)] [] n I L R 0 0 := by
  unfold jn_X6_writeCells_127 at h
  refine x_iinc (v := v2 + 1) (ls' := [(2, .int (v2 + 1)), (0, .ref 324), (1, .ref p1)]) dX6_writeCells_127 rfl (congrArg (_ + ·) ki_1) (Nat.le_of_ble_eq_true rfl) rfl ?_
  refine x_goto dX6_writeCells_130 (tgt := 2) rfl ?_
  refine x_ls (ls' := [(0, .ref 324), (1, .ref p1), (2, .int (v2 + 1))]) [1, 2, 0] rfl ?_
  exact hJ2 (v2 + 1) I h
def lp_X6_writeCells_2 (p1 : Nat) (Q : MI → Prop) : Nat → Int32 → MI → Prop
  | 0, _, _ => False
  | n + 1, v2, I =>
    (((I p1 1) ≤ v2 → Q I) ∧ (¬ (I p1 1) ≤ v2 → ((3 ≤ v2 → Q I) ∧ (¬ 3 ≤ v2 → (∃ N32, lp_X6_writeCells_17 p1 v2 (fun I33 => (jn_X6_writeCells_127 I33 v2 (fun x34 I35 => (lp_X6_writeCells_2 p1 Q n x34 I35)))) N32 0 I)))))
set_option maxRecDepth 20000 in
theorem lpt_X6_writeCells_2 {E : Ev} {l : Launch} {n : Nat} {R : MR} {p1 : Nat} (hn : 336 ≤ n) (hG : GRx R) (hp1 : isPlan p1) {I0 : MI} {Q : MI → Prop} {L : ML} : ∀ (N : Nat) (v2 : Int32) (I : MI), lp_X6_writeCells_2 p1 Q N v2 I → X E l rm_X6_writeCells yX6_writeCells cX6_writeCells 5 none noX (ZM E rm_X6_writeCells (Qv n R (V10 I0 L Q))) 2 [(0, .ref 324), (1, .ref p1), (2, .int v2)] [] n I L R 0 0 := by
  intro N
  induction N with
  | zero => intro v2 I h; exact False.elim h
  | succ N ih =>
    intro v2 I h
    unfold lp_X6_writeCells_2 at h
    refine x_iload_n dX6_writeCells_2 rfl ?_
    refine x_aload_n dX6_writeCells_3 rfl ?_
    refine x_geti dX6_writeCells_4 fk_RX6_40 (Pn_k hp1 hn 0 rfl) (Pn_s0 hp1) ?_
    refine x_icmp_ge dX6_writeCells_7 (tgt := 133) rfl ⟨fun c1 => ?_, fun c1 => ?_⟩
    · have h := h.1 c1
      exact x_return dX6_writeCells_133 ⟨rfl, rfl, rfl, rfl, h⟩
    · have h := h.2 c1
      refine x_iload_n dX6_writeCells_10 rfl ?_
      refine x_iconst (v := 3) dX6_writeCells_11 ki_3 ?_
      refine x_icmp_ge dX6_writeCells_12 (tgt := 133) rfl ⟨fun c2 => ?_, fun c2 => ?_⟩
      · have h := h.1 c2
        exact x_return dX6_writeCells_133 ⟨rfl, rfl, rfl, rfl, h⟩
      · have h := h.2 c2
        refine x_iconst (v := 0) dX6_writeCells_15 ki_0 ?_
        refine x_istore_n (ls' := [(3, .int 0), (0, .ref 324), (1, .ref p1), (2, .int v2)]) dX6_writeCells_16 (Nat.le_of_ble_eq_true rfl) rfl ?_
        refine x_ls (ls' := [(0, .ref 324), (1, .ref p1), (2, .int v2), (3, .int 0)]) [1, 2, 3, 0] rfl ?_
        obtain ⟨N32, h⟩ := h
        refine lpt_X6_writeCells_17 hn hG hp1 (fun I33 h => ?_) N32 0 I h
        refine jnt_X6_writeCells_127 hn hG hp1 (fun x34 I35 h => ?_) h
        exact ih x34 I35 h
def wp_X6_writeCells (p1 : Nat) (I : MI) (Q : MI → Prop) : Prop :=
    (∃ N36, lp_X6_writeCells_2 p1 Q N36 0 I)
set_option maxRecDepth 20000 in
theorem mt_X6_writeCells {E : Ev} {l : Launch} {n : Nat} {R : MR} {p1 : Nat} (hn : 336 ≤ n) (hG : GRx R) (hp1 : isPlan p1) {I : MI} {L : ML} {Q : MI → Prop} (h : wp_X6_writeCells p1 I Q) : MX E l rm_X6_writeCells yX6_writeCells cX6_writeCells 5 none [.ref 324, .ref p1] n I L R (Qv n R (V10 I L Q)) := by
  refine MX_of (ls := [(0, .ref 324), (1, .ref p1)]) (by decide) (Nat.le_of_ble_eq_true rfl) rfl ?_
  unfold wp_X6_writeCells at h
  refine x_iconst (v := 0) dX6_writeCells_0 ki_0 ?_
  refine x_istore_n (ls' := [(2, .int 0), (0, .ref 324), (1, .ref p1)]) dX6_writeCells_1 (Nat.le_of_ble_eq_true rfl) rfl ?_
  refine x_ls (ls' := [(0, .ref 324), (1, .ref p1), (2, .int 0)]) [1, 2, 0] rfl ?_
  obtain ⟨N36, h⟩ := h
  exact lpt_X6_writeCells_2 hn hG hp1  N36 0 I h
abbrev rm_X6_writeOne : Room := { frames := 5, cells := 0, slots := 0, locals := 108 }
def wp_X6_writeOne (I : MI) (v1 : Int32) (v2 : Int32) (Q : MI → Prop) : Prop :=
    (wp_X6_putWord I v1 (fun I1 => ((wp_X6_putNumber I1 v2 (fun I2 => ((wp_X6_put I2 59 (fun I3 => (Q I3)))))))))
set_option maxRecDepth 20000 in
theorem mt_X6_writeOne {E : Ev} {l : Launch} {n : Nat} {R : MR} (hn : 336 ≤ n) (hG : GRx R) {I : MI} {L : ML} {v1 : Int32} {v2 : Int32} {Q : MI → Prop} (h : wp_X6_writeOne I v1 v2 Q) : MX E l rm_X6_writeOne yX6_writeOne cX6_writeOne 3 none [.ref 324, .int v1, .int v2] n I L R (Qv n R (V10 I L Q)) := by
  refine MX_of (ls := [(0, .ref 324), (1, .int v1), (2, .int v2)]) (by decide) (Nat.le_of_ble_eq_true rfl) rfl ?_
  unfold wp_X6_writeOne at h
  refine x_aload_n dX6_writeOne_0 rfl ?_
  refine x_iload_n dX6_writeOne_1 rfl ?_
  refine x_cVv10 [.int v1] (mt_X6_putWord hn hG h) dX6_writeOne_2 lk_RX6_53 (kl rfl hn) sh_324 rfl rfl (Nat.le_of_ble_eq_true rfl) (Rf_of rfl) (fun I1 h => ?_)
  refine x_aload_n dX6_writeOne_5 rfl ?_
  refine x_iload_n dX6_writeOne_6 rfl ?_
  refine x_cVv10 [.int v2] (mt_X6_putNumber hn hG h) dX6_writeOne_7 lk_RX6_57 (kl rfl hn) sh_324 rfl rfl (Nat.le_of_ble_eq_true rfl) (Rf_of rfl) (fun I2 h => ?_)
  refine x_aload_n dX6_writeOne_10 rfl ?_
  refine x_bipush (v := 59) dX6_writeOne_11 kb_59 ?_
  refine x_cVv10 [.int 59] (mt_X6_put hn hG h) dX6_writeOne_13 lk_RX6_60 (kl rfl hn) sh_324 rfl rfl (Nat.le_of_ble_eq_true rfl) (Rf_of rfl) (fun I3 h => ?_)
  exact x_return dX6_writeOne_16 ⟨rfl, rfl, rfl, rfl, h⟩
abbrev rm_X6_writeParts : Room := { frames := 5, cells := 0, slots := 0, locals := 108 }
def lp_X6_writeParts_2 (p1 : Nat) (Q : MI → Prop) : Nat → Int32 → MI → Prop
  | 0, _, _ => False
  | n + 1, v2, I =>
    (((I p1 0) ≤ v2 → Q I) ∧ (¬ (I p1 0) ≤ v2 → ((3 ≤ v2 → Q I) ∧ (¬ 3 ≤ v2 → (wp_X6_putWord I 3 (fun I3 => ((vp_in v2 4 ∧ (wp_X6_putNumber I3 (I3 (p1 + 1) (ix v2)) (fun I5 => ((vp_in v2 4 ∧ (wp_X6_putNumber I5 (I5 (p1 + 2) (ix v2)) (fun I7 => ((vp_in v2 4 ∧ (wp_X6_putNumber I7 (I7 (p1 + 3) (ix v2)) (fun I9 => ((wp_X6_put I9 59 (fun I10 => ((lp_X6_writeParts_2 p1 Q n (v2 + 1) I10)))))))))))))))))))))))
set_option maxRecDepth 20000 in
theorem lpt_X6_writeParts_2 {E : Ev} {l : Launch} {n : Nat} {R : MR} {p1 : Nat} (hn : 336 ≤ n) (hG : GRx R) (hp1 : isPlan p1) {I0 : MI} {Q : MI → Prop} {L : ML} : ∀ (N : Nat) (v2 : Int32) (I : MI), lp_X6_writeParts_2 p1 Q N v2 I → X E l rm_X6_writeParts yX6_writeParts cX6_writeParts 3 none noX (ZM E rm_X6_writeParts (Qv n R (V10 I0 L Q))) 2 [(0, .ref 324), (1, .ref p1), (2, .int v2)] [] n I L R 0 0 := by
  intro N
  induction N with
  | zero => intro v2 I h; exact False.elim h
  | succ N ih =>
    intro v2 I h
    unfold lp_X6_writeParts_2 at h
    refine x_iload_n dX6_writeParts_2 rfl ?_
    refine x_aload_n dX6_writeParts_3 rfl ?_
    refine x_geti dX6_writeParts_4 fk_RX6_63 (Pn_k hp1 hn 0 rfl) (Pn_s0 hp1) ?_
    refine x_icmp_ge dX6_writeParts_7 (tgt := 62) rfl ⟨fun c1 => ?_, fun c1 => ?_⟩
    · have h := h.1 c1
      exact x_return dX6_writeParts_62 ⟨rfl, rfl, rfl, rfl, h⟩
    · have h := h.2 c1
      refine x_iload_n dX6_writeParts_10 rfl ?_
      refine x_iconst (v := 3) dX6_writeParts_11 ki_3 ?_
      refine x_icmp_ge dX6_writeParts_12 (tgt := 62) rfl ⟨fun c2 => ?_, fun c2 => ?_⟩
      · have h := h.1 c2
        exact x_return dX6_writeParts_62 ⟨rfl, rfl, rfl, rfl, h⟩
      · have h := h.2 c2
        refine x_aload_n dX6_writeParts_15 rfl ?_
        refine x_iconst (v := 3) dX6_writeParts_16 ki_3 ?_
        refine x_cVv10 [.int 3] (mt_X6_putWord hn hG h) dX6_writeParts_17 lk_RX6_53 (kl rfl hn) sh_324 rfl rfl (Nat.le_of_ble_eq_true rfl) (Rf_of rfl) (fun I3 h => ?_)
        refine x_aload_n dX6_writeParts_20 rfl ?_
        refine x_aload_n dX6_writeParts_21 rfl ?_
        refine x_getr (j := p1 + 1) dX6_writeParts_22 fk_RX6_66 (Pn_k hp1 hn 0 rfl) (Pn_s0 hp1) (Pn_r5 hG hp1) ?_
        refine x_iload_n dX6_writeParts_25 rfl ?_
        obtain ⟨b4, h⟩ := h
        refine x_iaload dX6_writeParts_26 (Pn_k hp1 hn 1 rfl) (Pn_s1 hp1) b4 ?_
        refine x_cVv10 [.int (I3 (p1 + 1) (ix v2))] (mt_X6_putNumber hn hG h) dX6_writeParts_27 lk_RX6_57 (kl rfl hn) sh_324 rfl rfl (Nat.le_of_ble_eq_true rfl) (Rf_of rfl) (fun I5 h => ?_)
        refine x_aload_n dX6_writeParts_30 rfl ?_
        refine x_aload_n dX6_writeParts_31 rfl ?_
        refine x_getr (j := p1 + 2) dX6_writeParts_32 fk_RX6_69 (Pn_k hp1 hn 0 rfl) (Pn_s0 hp1) (Pn_r6 hG hp1) ?_
        refine x_iload_n dX6_writeParts_35 rfl ?_
        obtain ⟨b6, h⟩ := h
        refine x_iaload dX6_writeParts_36 (Pn_k hp1 hn 2 rfl) (Pn_s2 hp1) b6 ?_
        refine x_cVv10 [.int (I5 (p1 + 2) (ix v2))] (mt_X6_putNumber hn hG h) dX6_writeParts_37 lk_RX6_57 (kl rfl hn) sh_324 rfl rfl (Nat.le_of_ble_eq_true rfl) (Rf_of rfl) (fun I7 h => ?_)
        refine x_aload_n dX6_writeParts_40 rfl ?_
        refine x_aload_n dX6_writeParts_41 rfl ?_
        refine x_getr (j := p1 + 3) dX6_writeParts_42 fk_RX6_72 (Pn_k hp1 hn 0 rfl) (Pn_s0 hp1) (Pn_r7 hG hp1) ?_
        refine x_iload_n dX6_writeParts_45 rfl ?_
        obtain ⟨b8, h⟩ := h
        refine x_iaload dX6_writeParts_46 (Pn_k hp1 hn 3 rfl) (Pn_s3 hp1) b8 ?_
        refine x_cVv10 [.int (I7 (p1 + 3) (ix v2))] (mt_X6_putNumber hn hG h) dX6_writeParts_47 lk_RX6_57 (kl rfl hn) sh_324 rfl rfl (Nat.le_of_ble_eq_true rfl) (Rf_of rfl) (fun I9 h => ?_)
        refine x_aload_n dX6_writeParts_50 rfl ?_
        refine x_bipush (v := 59) dX6_writeParts_51 kb_59 ?_
        refine x_cVv10 [.int 59] (mt_X6_put hn hG h) dX6_writeParts_53 lk_RX6_60 (kl rfl hn) sh_324 rfl rfl (Nat.le_of_ble_eq_true rfl) (Rf_of rfl) (fun I10 h => ?_)
        refine x_iinc (v := v2 + 1) (ls' := [(2, .int (v2 + 1)), (0, .ref 324), (1, .ref p1)]) dX6_writeParts_56 rfl (congrArg (_ + ·) ki_1) (Nat.le_of_ble_eq_true rfl) rfl ?_
        refine x_goto dX6_writeParts_59 (tgt := 2) rfl ?_
        refine x_ls (ls' := [(0, .ref 324), (1, .ref p1), (2, .int (v2 + 1))]) [1, 2, 0] rfl ?_
        exact ih (v2 + 1) I10 h
def wp_X6_writeParts (p1 : Nat) (I : MI) (Q : MI → Prop) : Prop :=
    (∃ N11, lp_X6_writeParts_2 p1 Q N11 0 I)
set_option maxRecDepth 20000 in
theorem mt_X6_writeParts {E : Ev} {l : Launch} {n : Nat} {R : MR} {p1 : Nat} (hn : 336 ≤ n) (hG : GRx R) (hp1 : isPlan p1) {I : MI} {L : ML} {Q : MI → Prop} (h : wp_X6_writeParts p1 I Q) : MX E l rm_X6_writeParts yX6_writeParts cX6_writeParts 3 none [.ref 324, .ref p1] n I L R (Qv n R (V10 I L Q)) := by
  refine MX_of (ls := [(0, .ref 324), (1, .ref p1)]) (by decide) (Nat.le_of_ble_eq_true rfl) rfl ?_
  unfold wp_X6_writeParts at h
  refine x_iconst (v := 0) dX6_writeParts_0 ki_0 ?_
  refine x_istore_n (ls' := [(2, .int 0), (0, .ref 324), (1, .ref p1)]) dX6_writeParts_1 (Nat.le_of_ble_eq_true rfl) rfl ?_
  refine x_ls (ls' := [(0, .ref 324), (1, .ref p1), (2, .int 0)]) [1, 2, 0] rfl ?_
  obtain ⟨N11, h⟩ := h
  exact lpt_X6_writeParts_2 hn hG hp1  N11 0 I h
abbrev rm_X6_writeWorks : Room := { frames := 5, cells := 0, slots := 0, locals := 108 }
def jn_X6_writeWorks_51 (I : MI) (v2 : Int32) (kj2 : Int32 → MI → Prop) : Prop :=
    kj2 (v2 + 1) I
set_option maxRecDepth 20000 in
theorem jnt_X6_writeWorks_51 {E : Ev} {l : Launch} {n : Nat} {R : MR} {p1 : Nat} (hn : 336 ≤ n) (hG : GRx R) (hp1 : isPlan p1) {I0 : MI} {Q : MI → Prop} {I : MI} {L : ML} {v2 : Int32} {kj2 : Int32 → MI → Prop}
    (hJ2 : ∀ (v2 : Int32) (I : MI), kj2 v2 I → X E l rm_X6_writeWorks yX6_writeWorks cX6_writeWorks 3 none noX (ZM E rm_X6_writeWorks (Qv n R (V10 I0 L Q))) 2 [(0, .ref 324), (1, .ref p1), (2, .int v2)] [] n I L R 0 0) (h : jn_X6_writeWorks_51 I v2 kj2) : X E l rm_X6_writeWorks yX6_writeWorks cX6_writeWorks 3 none noX (ZM E rm_X6_writeWorks (Qv n R (V10 I0 L Q))) 51 [(0, .ref 324), (1, .ref p1), (2, .int v2)] [] n I L R 0 0 := by
  unfold jn_X6_writeWorks_51 at h
  refine x_iinc (v := v2 + 1) (ls' := [(2, .int (v2 + 1)), (0, .ref 324), (1, .ref p1)]) dX6_writeWorks_51 rfl (congrArg (_ + ·) ki_1) (Nat.le_of_ble_eq_true rfl) rfl ?_
  refine x_goto dX6_writeWorks_54 (tgt := 2) rfl ?_
  refine x_ls (ls' := [(0, .ref 324), (1, .ref p1), (2, .int (v2 + 1))]) [1, 2, 0] rfl ?_
  exact hJ2 (v2 + 1) I h
def lp_X6_writeWorks_2 (p1 : Nat) (Q : MI → Prop) : Nat → Int32 → MI → Prop
  | 0, _, _ => False
  | n + 1, v2, I =>
    (((I p1 0) ≤ v2 → Q I) ∧ (¬ (I p1 0) ≤ v2 → ((3 ≤ v2 → Q I) ∧ (¬ 3 ≤ v2 → (vp_in v2 4 ∧ (((I (p1 + 4) (ix v2)) = 0 → (jn_X6_writeWorks_51 I v2 (fun x5 I6 => (lp_X6_writeWorks_2 p1 Q n x5 I6)))) ∧ (¬ (I (p1 + 4) (ix v2)) = 0 → (wp_X6_putWord I 6 (fun I7 => ((wp_X6_putNumber I7 v2 (fun I8 => ((vp_in v2 4 ∧ (wp_X6_putNumber I8 (I8 (p1 + 4) (ix v2)) (fun I10 => ((wp_X6_put I10 59 (fun I11 => ((jn_X6_writeWorks_51 I11 v2 (fun x12 I13 => (lp_X6_writeWorks_2 p1 Q n x12 I13)))))))))))))))))))))))
set_option maxRecDepth 20000 in
theorem lpt_X6_writeWorks_2 {E : Ev} {l : Launch} {n : Nat} {R : MR} {p1 : Nat} (hn : 336 ≤ n) (hG : GRx R) (hp1 : isPlan p1) {I0 : MI} {Q : MI → Prop} {L : ML} : ∀ (N : Nat) (v2 : Int32) (I : MI), lp_X6_writeWorks_2 p1 Q N v2 I → X E l rm_X6_writeWorks yX6_writeWorks cX6_writeWorks 3 none noX (ZM E rm_X6_writeWorks (Qv n R (V10 I0 L Q))) 2 [(0, .ref 324), (1, .ref p1), (2, .int v2)] [] n I L R 0 0 := by
  intro N
  induction N with
  | zero => intro v2 I h; exact False.elim h
  | succ N ih =>
    intro v2 I h
    unfold lp_X6_writeWorks_2 at h
    refine x_iload_n dX6_writeWorks_2 rfl ?_
    refine x_aload_n dX6_writeWorks_3 rfl ?_
    refine x_geti dX6_writeWorks_4 fk_RX6_63 (Pn_k hp1 hn 0 rfl) (Pn_s0 hp1) ?_
    refine x_icmp_ge dX6_writeWorks_7 (tgt := 57) rfl ⟨fun c1 => ?_, fun c1 => ?_⟩
    · have h := h.1 c1
      exact x_return dX6_writeWorks_57 ⟨rfl, rfl, rfl, rfl, h⟩
    · have h := h.2 c1
      refine x_iload_n dX6_writeWorks_10 rfl ?_
      refine x_iconst (v := 3) dX6_writeWorks_11 ki_3 ?_
      refine x_icmp_ge dX6_writeWorks_12 (tgt := 57) rfl ⟨fun c2 => ?_, fun c2 => ?_⟩
      · have h := h.1 c2
        exact x_return dX6_writeWorks_57 ⟨rfl, rfl, rfl, rfl, h⟩
      · have h := h.2 c2
        refine x_aload_n dX6_writeWorks_15 rfl ?_
        refine x_getr (j := p1 + 4) dX6_writeWorks_16 fk_RX6_88 (Pn_k hp1 hn 0 rfl) (Pn_s0 hp1) (Pn_r8 hG hp1) ?_
        refine x_iload_n dX6_writeWorks_19 rfl ?_
        obtain ⟨b3, h⟩ := h
        refine x_iaload dX6_writeWorks_20 (Pn_k hp1 hn 4 rfl) (Pn_s4 hp1) b3 ?_
        refine x_if_eq dX6_writeWorks_21 (tgt := 51) rfl ⟨fun c4 => ?_, fun c4 => ?_⟩
        · have h := h.1 c4
          refine jnt_X6_writeWorks_51 hn hG hp1 (fun x5 I6 h => ?_) h
          exact ih x5 I6 h
        · have h := h.2 c4
          refine x_aload_n dX6_writeWorks_24 rfl ?_
          refine x_bipush (v := 6) dX6_writeWorks_25 kb_6 ?_
          refine x_cVv10 [.int 6] (mt_X6_putWord hn hG h) dX6_writeWorks_27 lk_RX6_53 (kl rfl hn) sh_324 rfl rfl (Nat.le_of_ble_eq_true rfl) (Rf_of rfl) (fun I7 h => ?_)
          refine x_aload_n dX6_writeWorks_30 rfl ?_
          refine x_iload_n dX6_writeWorks_31 rfl ?_
          refine x_cVv10 [.int v2] (mt_X6_putNumber hn hG h) dX6_writeWorks_32 lk_RX6_57 (kl rfl hn) sh_324 rfl rfl (Nat.le_of_ble_eq_true rfl) (Rf_of rfl) (fun I8 h => ?_)
          refine x_aload_n dX6_writeWorks_35 rfl ?_
          refine x_aload_n dX6_writeWorks_36 rfl ?_
          refine x_getr (j := p1 + 4) dX6_writeWorks_37 fk_RX6_88 (Pn_k hp1 hn 0 rfl) (Pn_s0 hp1) (Pn_r8 hG hp1) ?_
          refine x_iload_n dX6_writeWorks_40 rfl ?_
          obtain ⟨b9, h⟩ := h
          refine x_iaload dX6_writeWorks_41 (Pn_k hp1 hn 4 rfl) (Pn_s4 hp1) b9 ?_
          refine x_cVv10 [.int (I8 (p1 + 4) (ix v2))] (mt_X6_putNumber hn hG h) dX6_writeWorks_42 lk_RX6_57 (kl rfl hn) sh_324 rfl rfl (Nat.le_of_ble_eq_true rfl) (Rf_of rfl) (fun I10 h => ?_)
          refine x_aload_n dX6_writeWorks_45 rfl ?_
          refine x_bipush (v := 59) dX6_writeWorks_46 kb_59 ?_
          refine x_cVv10 [.int 59] (mt_X6_put hn hG h) dX6_writeWorks_48 lk_RX6_60 (kl rfl hn) sh_324 rfl rfl (Nat.le_of_ble_eq_true rfl) (Rf_of rfl) (fun I11 h => ?_)
          refine jnt_X6_writeWorks_51 hn hG hp1 (fun x12 I13 h => ?_) h
          exact ih x12 I13 h
def wp_X6_writeWorks (p1 : Nat) (I : MI) (Q : MI → Prop) : Prop :=
    (∃ N14, lp_X6_writeWorks_2 p1 Q N14 0 I)
set_option maxRecDepth 20000 in
theorem mt_X6_writeWorks {E : Ev} {l : Launch} {n : Nat} {R : MR} {p1 : Nat} (hn : 336 ≤ n) (hG : GRx R) (hp1 : isPlan p1) {I : MI} {L : ML} {Q : MI → Prop} (h : wp_X6_writeWorks p1 I Q) : MX E l rm_X6_writeWorks yX6_writeWorks cX6_writeWorks 3 none [.ref 324, .ref p1] n I L R (Qv n R (V10 I L Q)) := by
  refine MX_of (ls := [(0, .ref 324), (1, .ref p1)]) (by decide) (Nat.le_of_ble_eq_true rfl) rfl ?_
  unfold wp_X6_writeWorks at h
  refine x_iconst (v := 0) dX6_writeWorks_0 ki_0 ?_
  refine x_istore_n (ls' := [(2, .int 0), (0, .ref 324), (1, .ref p1)]) dX6_writeWorks_1 (Nat.le_of_ble_eq_true rfl) rfl ?_
  refine x_ls (ls' := [(0, .ref 324), (1, .ref p1), (2, .int 0)]) [1, 2, 0] rfl ?_
  obtain ⟨N14, h⟩ := h
  exact lpt_X6_writeWorks_2 hn hG hp1  N14 0 I h
abbrev rm_X6_write : Room := { frames := 6, cells := 0, slots := 0, locals := 132 }
def lp_X6_write_39 (p1 : Nat) (kf69 : MI → Prop) : Nat → Int32 → MI → Prop
  | 0, _, _ => False
  | n + 1, v2, I =>
    (((I p1 1) ≤ v2 → kf69 I) ∧ (¬ (I p1 1) ≤ v2 → ((3 ≤ v2 → kf69 I) ∧ (¬ 3 ≤ v2 → (vp_in v2 4 ∧ (wp_X6_writeOne I 4 (I (p1 + 5) (ix v2)) (fun I9 => ((lp_X6_write_39 p1 kf69 n (v2 + 1) I9)))))))))
set_option maxRecDepth 20000 in
theorem lpt_X6_write_39 {E : Ev} {l : Launch} {n : Nat} {R : MR} {p1 : Nat} (hn : 336 ≤ n) (hG : GRx R) (hp1 : isPlan p1) {I0 : MI} {Q : MI → Prop} {L : ML} {kf69 : MI → Prop}
    (hK69 : ∀ (I : MI), kf69 I → X E l rm_X6_write yX6_write cX6_write 3 none noX (ZM E rm_X6_write (Qv n R (V10 I0 L Q))) 69 [(0, .ref 324), (1, .ref p1)] [] n I L R 0 0) : ∀ (N : Nat) (v2 : Int32) (I : MI), lp_X6_write_39 p1 kf69 N v2 I → X E l rm_X6_write yX6_write cX6_write 3 none noX (ZM E rm_X6_write (Qv n R (V10 I0 L Q))) 39 [(0, .ref 324), (1, .ref p1), (2, .int v2)] [] n I L R 0 0 := by
  intro N
  induction N with
  | zero => intro v2 I h; exact False.elim h
  | succ N ih =>
    intro v2 I h
    unfold lp_X6_write_39 at h
    refine x_iload_n dX6_write_39 rfl ?_
    refine x_aload_n dX6_write_40 rfl ?_
    refine x_geti dX6_write_41 fk_RX6_40 (Pn_k hp1 hn 0 rfl) (Pn_s0 hp1) ?_
    refine x_icmp_ge dX6_write_44 (tgt := 69) rfl ⟨fun c6 => ?_, fun c6 => ?_⟩
    · have h := h.1 c6
      refine x_ls (ls' := [(0, .ref 324), (1, .ref p1)]) [0, 1] rfl ?_
      exact hK69 I h
    · have h := h.2 c6
      refine x_iload_n dX6_write_47 rfl ?_
      refine x_iconst (v := 3) dX6_write_48 ki_3 ?_
      refine x_icmp_ge dX6_write_49 (tgt := 69) rfl ⟨fun c7 => ?_, fun c7 => ?_⟩
      · have h := h.1 c7
        refine x_ls (ls' := [(0, .ref 324), (1, .ref p1)]) [0, 1] rfl ?_
        exact hK69 I h
      · have h := h.2 c7
        refine x_aload_n dX6_write_52 rfl ?_
        refine x_iconst (v := 4) dX6_write_53 ki_4 ?_
        refine x_aload_n dX6_write_54 rfl ?_
        refine x_getr (j := p1 + 5) dX6_write_55 fk_RX6_43 (Pn_k hp1 hn 0 rfl) (Pn_s0 hp1) (Pn_r9 hG hp1) ?_
        refine x_iload_n dX6_write_58 rfl ?_
        obtain ⟨b8, h⟩ := h
        refine x_iaload dX6_write_59 (Pn_k hp1 hn 5 rfl) (Pn_s5 hp1) b8 ?_
        refine x_cVv10 [.int 4, .int (I (p1 + 5) (ix v2))] (mt_X6_writeOne hn hG h) dX6_write_60 lk_RX6_26 (kl rfl hn) sh_324 rfl rfl (Nat.le_of_ble_eq_true rfl) (Rf_of rfl) (fun I9 h => ?_)
        refine x_iinc (v := v2 + 1) (ls' := [(2, .int (v2 + 1)), (0, .ref 324), (1, .ref p1)]) dX6_write_63 rfl (congrArg (_ + ·) ki_1) (Nat.le_of_ble_eq_true rfl) rfl ?_
        refine x_goto dX6_write_66 (tgt := 39) rfl ?_
        refine x_ls (ls' := [(0, .ref 324), (1, .ref p1), (2, .int (v2 + 1))]) [1, 2, 0] rfl ?_
        exact ih (v2 + 1) I9 h
def jn_X6_write_69 (p1 : Nat) (I : MI) (Q : MI → Prop) : Prop :=
    (wp_X6_writeCells p1 I (fun I12 => ((wp_X6_writeWorks p1 I12 (fun I13 => (Q I13))))))
set_option maxRecDepth 20000 in
theorem jnt_X6_write_69 {E : Ev} {l : Launch} {n : Nat} {R : MR} {p1 : Nat} (hn : 336 ≤ n) (hG : GRx R) (hp1 : isPlan p1) {I0 : MI} {Q : MI → Prop} {I : MI} {L : ML} (h : jn_X6_write_69 p1 I Q) : X E l rm_X6_write yX6_write cX6_write 3 none noX (ZM E rm_X6_write (Qv n R (V10 I0 L Q))) 69 [(0, .ref 324), (1, .ref p1)] [] n I L R 0 0 := by
  unfold jn_X6_write_69 at h
  refine x_aload_n dX6_write_69 rfl ?_
  refine x_aload_n dX6_write_70 rfl ?_
  refine x_cVv10 [.ref p1] (mt_X6_writeCells hn hG hp1 h) dX6_write_71 lk_RX6_47 (kl rfl hn) sh_324 rfl rfl (Nat.le_of_ble_eq_true rfl) (Rf_of rfl) (fun I12 h => ?_)
  refine x_aload_n dX6_write_74 rfl ?_
  refine x_aload_n dX6_write_75 rfl ?_
  refine x_cVv10 [.ref p1] (mt_X6_writeWorks hn hG hp1 h) dX6_write_76 lk_RX6_50 (kl rfl hn) sh_324 rfl rfl (Nat.le_of_ble_eq_true rfl) (Rf_of rfl) (fun I13 h => ?_)
  exact x_return dX6_write_79 ⟨rfl, rfl, rfl, rfl, h⟩
def wp_X6_write (p1 : Nat) (I : MI) (Q : MI → Prop) : Prop :=
    (∀ I1, I1 = u2 I 324 1 0 → (wp_X6_writeOne I1 0 (I1 p1 2) (fun I2 => ((wp_X6_writeOne I2 1 (I2 p1 3) (fun I3 => ((wp_X6_writeOne I3 2 (I3 p1 4) (fun I4 => ((wp_X6_writeParts p1 I4 (fun I5 => ((∃ N10, lp_X6_write_39 p1 (fun I11 => (jn_X6_write_69 p1 I11 Q)) N10 0 I5))))))))))))))
set_option maxRecDepth 20000 in
theorem mt_X6_write {E : Ev} {l : Launch} {n : Nat} {R : MR} {p1 : Nat} (hn : 336 ≤ n) (hG : GRx R) (hp1 : isPlan p1) {I : MI} {L : ML} {Q : MI → Prop} (h : wp_X6_write p1 I Q) : MX E l rm_X6_write yX6_write cX6_write 3 none [.ref 324, .ref p1] n I L R (Qv n R (V10 I L Q)) := by
  refine MX_of (ls := [(0, .ref 324), (1, .ref p1)]) (by decide) (Nat.le_of_ble_eq_true rfl) rfl ?_
  unfold wp_X6_write at h
  refine x_aload_n dX6_write_0 rfl ?_
  refine x_iconst (v := 0) dX6_write_1 ki_0 ?_
  refine x_puti dX6_write_2 fk_RX6_15 fw_5_1 (vp_nar_int _) rfl (kl rfl hn) sh_324 (fun I1 eI1 => ?_)
  have h := h I1 eI1
  refine x_aload_n dX6_write_5 rfl ?_
  refine x_iconst (v := 0) dX6_write_6 ki_0 ?_
  refine x_aload_n dX6_write_7 rfl ?_
  refine x_geti dX6_write_8 fk_RX6_21 (Pn_k hp1 hn 0 rfl) (Pn_s0 hp1) ?_
  refine x_cVv10 [.int 0, .int (I1 p1 2)] (mt_X6_writeOne hn hG h) dX6_write_11 lk_RX6_26 (kl rfl hn) sh_324 rfl rfl (Nat.le_of_ble_eq_true rfl) (Rf_of rfl) (fun I2 h => ?_)
  refine x_aload_n dX6_write_14 rfl ?_
  refine x_iconst (v := 1) dX6_write_15 ki_1 ?_
  refine x_aload_n dX6_write_16 rfl ?_
  refine x_geti dX6_write_17 fk_RX6_30 (Pn_k hp1 hn 0 rfl) (Pn_s0 hp1) ?_
  refine x_cVv10 [.int 1, .int (I2 p1 3)] (mt_X6_writeOne hn hG h) dX6_write_20 lk_RX6_26 (kl rfl hn) sh_324 rfl rfl (Nat.le_of_ble_eq_true rfl) (Rf_of rfl) (fun I3 h => ?_)
  refine x_aload_n dX6_write_23 rfl ?_
  refine x_iconst (v := 2) dX6_write_24 ki_2 ?_
  refine x_aload_n dX6_write_25 rfl ?_
  refine x_geti dX6_write_26 fk_RX6_33 (Pn_k hp1 hn 0 rfl) (Pn_s0 hp1) ?_
  refine x_cVv10 [.int 2, .int (I3 p1 4)] (mt_X6_writeOne hn hG h) dX6_write_29 lk_RX6_26 (kl rfl hn) sh_324 rfl rfl (Nat.le_of_ble_eq_true rfl) (Rf_of rfl) (fun I4 h => ?_)
  refine x_aload_n dX6_write_32 rfl ?_
  refine x_aload_n dX6_write_33 rfl ?_
  refine x_cVv10 [.ref p1] (mt_X6_writeParts hn hG hp1 h) dX6_write_34 lk_RX6_36 (kl rfl hn) sh_324 rfl rfl (Nat.le_of_ble_eq_true rfl) (Rf_of rfl) (fun I5 h => ?_)
  refine x_iconst (v := 0) dX6_write_37 ki_0 ?_
  refine x_istore_n (ls' := [(2, .int 0), (0, .ref 324), (1, .ref p1)]) dX6_write_38 (Nat.le_of_ble_eq_true rfl) rfl ?_
  refine x_ls (ls' := [(0, .ref 324), (1, .ref p1), (2, .int 0)]) [1, 2, 0] rfl ?_
  obtain ⟨N10, h⟩ := h
  refine lpt_X6_write_39 hn hG hp1 (fun I11 h => ?_) N10 0 I5 h
  exact jnt_X6_write_69 hn hG hp1  h
