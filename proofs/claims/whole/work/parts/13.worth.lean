abbrev rm_X8_pickOf : Room := { frames := 0, cells := 0, slots := 0, locals := 0 }
def wp_X8_pickOf (I : MI) (v1 : Int32) (v2 : Int32) (Q : Int32 → Prop) : Prop :=
    ((v2 < 0 → Q 0) ∧ (¬ v2 < 0 → ((100 ≤ v2 → Q 0) ∧ (¬ 100 ≤ v2 → ((((v1 * 100) + v2) < 0 → Q 0) ∧ (¬ ((v1 * 100) + v2) < 0 → ((900 ≤ ((v1 * 100) + v2) → Q 0) ∧ (¬ 900 ≤ ((v1 * 100) + v2) → (vp_in ((v1 * 100) + v2) 900 ∧ Q (I 335 (ix ((v1 * 100) + v2))))))))))))
set_option maxRecDepth 20000 in
theorem mt_X8_pickOf {E : Ev} {l : Launch} {n : Nat} {R : MR} (hn : 336 ≤ n) (hG : GRx R) {I : MI} {L : ML} {v1 : Int32} {v2 : Int32} {Q : Int32 → Prop} (h : wp_X8_pickOf I v1 v2 Q) : MX E l rm_X8_pickOf yX8_pickOf cX8_pickOf 4 (some .int) [.ref 326, .int v1, .int v2] n I L R (Qi n R (P00 I L Q)) := by
  refine MX_of (ls := [(0, .ref 326), (1, .int v1), (2, .int v2)]) (by decide) (Nat.le_of_ble_eq_true rfl) rfl ?_
  unfold wp_X8_pickOf at h
  refine x_iload_n dX8_pickOf_0 rfl ?_
  refine x_bipush (v := 100) dX8_pickOf_1 kb_100 ?_
  refine x_imul dX8_pickOf_3 ?_
  refine x_iload_n dX8_pickOf_4 rfl ?_
  refine x_iadd dX8_pickOf_5 ?_
  refine x_istore_n (ls' := [(3, .int ((v1 * 100) + v2)), (0, .ref 326), (1, .int v1), (2, .int v2)]) dX8_pickOf_6 (Nat.le_of_ble_eq_true rfl) rfl ?_
  refine x_iload_n dX8_pickOf_7 rfl ?_
  refine x_if_lt dX8_pickOf_8 (tgt := 39) rfl ⟨fun c1 => ?_, fun c1 => ?_⟩
  · have h := h.1 c1
    refine x_iconst (v := 0) dX8_pickOf_39 ki_0 ?_
    exact x_ireturn dX8_pickOf_40 ⟨_, rfl, rfl, rfl, rfl, rfl, h⟩
  · have h := h.2 c1
    refine x_iload_n dX8_pickOf_11 rfl ?_
    refine x_bipush (v := 100) dX8_pickOf_12 kb_100 ?_
    refine x_icmp_ge dX8_pickOf_14 (tgt := 39) rfl ⟨fun c2 => ?_, fun c2 => ?_⟩
    · have h := h.1 c2
      refine x_iconst (v := 0) dX8_pickOf_39 ki_0 ?_
      exact x_ireturn dX8_pickOf_40 ⟨_, rfl, rfl, rfl, rfl, rfl, h⟩
    · have h := h.2 c2
      refine x_iload_n dX8_pickOf_17 rfl ?_
      refine x_if_lt dX8_pickOf_18 (tgt := 39) rfl ⟨fun c3 => ?_, fun c3 => ?_⟩
      · have h := h.1 c3
        refine x_iconst (v := 0) dX8_pickOf_39 ki_0 ?_
        exact x_ireturn dX8_pickOf_40 ⟨_, rfl, rfl, rfl, rfl, rfl, h⟩
      · have h := h.2 c3
        refine x_iload_n dX8_pickOf_21 rfl ?_
        refine x_aload_n dX8_pickOf_22 rfl ?_
        refine x_getr (j := 335) dX8_pickOf_23 fk_RX8_41 (kl rfl hn) sh_326 (rt_326_9 hG) ?_
        refine x_alen (v := 900) dX8_pickOf_26 (kl rfl hn) sh_335 (by decide) rfl ?_
        refine x_icmp_ge dX8_pickOf_27 (tgt := 39) rfl ⟨fun c4 => ?_, fun c4 => ?_⟩
        · have h := h.1 c4
          refine x_iconst (v := 0) dX8_pickOf_39 ki_0 ?_
          exact x_ireturn dX8_pickOf_40 ⟨_, rfl, rfl, rfl, rfl, rfl, h⟩
        · have h := h.2 c4
          refine x_aload_n dX8_pickOf_30 rfl ?_
          refine x_getr (j := 335) dX8_pickOf_31 fk_RX8_41 (kl rfl hn) sh_326 (rt_326_9 hG) ?_
          refine x_iload_n dX8_pickOf_34 rfl ?_
          obtain ⟨b5, h⟩ := h
          refine x_iaload dX8_pickOf_35 (kl rfl hn) sh_335 b5 ?_
          refine x_goto dX8_pickOf_36 (tgt := 40) rfl ?_
          exact x_ireturn dX8_pickOf_40 ⟨_, rfl, rfl, rfl, rfl, rfl, h⟩
abbrev rm_X8_bestSpares : Room := { frames := 1, cells := 0, slots := 0, locals := 23 }
def lp_X8_bestSpares_6 (p1 : Nat) (I : MI) (v3 : Int32) (kf48 : Int32 → Prop) : Nat → Int32 → Int32 → Prop
  | 0, _, _ => False
  | n + 1, v4, v5 =>
    ((v3 ≤ v5 → kf48 v4) ∧ (¬ v3 ≤ v5 → ((9 ≤ v5 → kf48 v4) ∧ (¬ 9 ≤ v5 → (wp_X8_pickOf I v5 v4 (fun x3 => ((vp_in (v5 - v5 / 3 * 3) 4 ∧ (lp_X8_bestSpares_6 p1 I v3 kf48 n (v4 - (x3 * (I (p1 + 1) (ix (v5 - v5 / 3 * 3))))) (v5 + 1))))))))))
set_option maxRecDepth 20000 in
theorem lpt_X8_bestSpares_6 {E : Ev} {l : Launch} {n : Nat} {R : MR} {p1 : Nat} (hn : 336 ≤ n) (hG : GRx R) (hp1 : isPlan p1) {Q : Int32 → Prop} {v3 : Int32} {I : MI} {L : ML} {kf48 : Int32 → Prop}
    (hK48 : ∀ (v4 : Int32), kf48 v4 → X E l rm_X8_bestSpares yX8_bestSpares cX8_bestSpares 6 (some .int) noX (ZM E rm_X8_bestSpares (Qi n R (P00 I L Q))) 48 [(0, .ref 326), (3, .int v3), (4, .int v4)] [] n I L R 0 0) : ∀ (N : Nat) (v4 : Int32) (v5 : Int32), lp_X8_bestSpares_6 p1 I v3 kf48 N v4 v5 → X E l rm_X8_bestSpares yX8_bestSpares cX8_bestSpares 6 (some .int) noX (ZM E rm_X8_bestSpares (Qi n R (P00 I L Q))) 6 [(0, .ref 326), (1, .ref p1), (3, .int v3), (4, .int v4), (5, .int v5)] [] n I L R 0 0 := by
  intro N
  induction N with
  | zero => intro v4 v5 h; exact False.elim h
  | succ N ih =>
    intro v4 v5 h
    unfold lp_X8_bestSpares_6 at h
    refine x_iload dX8_bestSpares_6 rfl ?_
    refine x_iload_n dX8_bestSpares_8 rfl ?_
    refine x_icmp_ge dX8_bestSpares_9 (tgt := 48) rfl ⟨fun c1 => ?_, fun c1 => ?_⟩
    · have h := h.1 c1
      refine x_ls (ls' := [(0, .ref 326), (3, .int v3), (4, .int v4)]) [0, 2, 3] rfl ?_
      exact hK48 v4 h
    · have h := h.2 c1
      refine x_iload dX8_bestSpares_12 rfl ?_
      refine x_bipush (v := 9) dX8_bestSpares_14 kb_9 ?_
      refine x_icmp_ge dX8_bestSpares_16 (tgt := 48) rfl ⟨fun c2 => ?_, fun c2 => ?_⟩
      · have h := h.1 c2
        refine x_ls (ls' := [(0, .ref 326), (3, .int v3), (4, .int v4)]) [0, 2, 3] rfl ?_
        exact hK48 v4 h
      · have h := h.2 c2
        refine x_iload dX8_bestSpares_19 rfl ?_
        refine x_aload_n dX8_bestSpares_21 rfl ?_
        refine x_iload dX8_bestSpares_22 rfl ?_
        refine x_iload dX8_bestSpares_24 rfl ?_
        refine x_cVi00 [.int v5, .int v4] (mt_X8_pickOf hn hG h) dX8_bestSpares_26 lk_RX8_117 (kl rfl hn) sh_326 rfl rfl (Nat.le_of_ble_eq_true rfl) (Rf_of rfl) (fun x3 h => ?_)
        refine x_aload_n dX8_bestSpares_29 rfl ?_
        refine x_getr (j := p1 + 1) dX8_bestSpares_30 fk_RX8_99 (Pn_k hp1 hn 0 rfl) (Pn_s0 hp1) (Pn_r5 hG hp1) ?_
        refine x_iload dX8_bestSpares_33 rfl ?_
        refine x_iconst (v := 3) dX8_bestSpares_35 ki_3 ?_
        refine x_irem dX8_bestSpares_36 (by decide) ?_
        obtain ⟨b4, h⟩ := h
        refine x_iaload dX8_bestSpares_37 (Pn_k hp1 hn 1 rfl) (Pn_s1 hp1) b4 ?_
        refine x_imul dX8_bestSpares_38 ?_
        refine x_isub dX8_bestSpares_39 ?_
        refine x_istore (ls' := [(4, .int (v4 - (x3 * (I (p1 + 1) (ix (v5 - v5 / 3 * 3)))))), (0, .ref 326), (1, .ref p1), (3, .int v3), (5, .int v5)]) dX8_bestSpares_40 (Nat.le_of_ble_eq_true rfl) rfl ?_
        refine x_iinc (v := v5 + 1) (ls' := [(5, .int (v5 + 1)), (4, .int (v4 - (x3 * (I (p1 + 1) (ix (v5 - v5 / 3 * 3)))))), (0, .ref 326), (1, .ref p1), (3, .int v3)]) dX8_bestSpares_42 rfl (congrArg (_ + ·) ki_1) (Nat.le_of_ble_eq_true rfl) rfl ?_
        refine x_goto dX8_bestSpares_45 (tgt := 6) rfl ?_
        refine x_ls (ls' := [(0, .ref 326), (1, .ref p1), (3, .int v3), (4, .int (v4 - (x3 * (I (p1 + 1) (ix (v5 - v5 / 3 * 3)))))), (5, .int (v5 + 1))]) [2, 3, 4, 1, 0] rfl ?_
        exact ih (v4 - (x3 * (I (p1 + 1) (ix (v5 - v5 / 3 * 3))))) (v5 + 1) h
def jn_X8_bestSpares_48 (I : MI) (v3 : Int32) (v4 : Int32) (Q : Int32 → Prop) : Prop :=
    (wp_X8_pickOf I v3 v4 (fun x7 => (Q x7)))
set_option maxRecDepth 20000 in
theorem jnt_X8_bestSpares_48 {E : Ev} {l : Launch} {n : Nat} {R : MR} {p1 : Nat} (hn : 336 ≤ n) (hG : GRx R) (hp1 : isPlan p1) {Q : Int32 → Prop} {I : MI} {L : ML} {v3 : Int32} {v4 : Int32} (h : jn_X8_bestSpares_48 I v3 v4 Q) : X E l rm_X8_bestSpares yX8_bestSpares cX8_bestSpares 6 (some .int) noX (ZM E rm_X8_bestSpares (Qi n R (P00 I L Q))) 48 [(0, .ref 326), (3, .int v3), (4, .int v4)] [] n I L R 0 0 := by
  unfold jn_X8_bestSpares_48 at h
  refine x_aload_n dX8_bestSpares_48 rfl ?_
  refine x_iload_n dX8_bestSpares_49 rfl ?_
  refine x_iload dX8_bestSpares_50 rfl ?_
  refine x_cVi00 [.int v3, .int v4] (mt_X8_pickOf hn hG h) dX8_bestSpares_52 lk_RX8_117 (kl rfl hn) sh_326 rfl rfl (Nat.le_of_ble_eq_true rfl) (Rf_of rfl) (fun x7 h => ?_)
  exact x_ireturn dX8_bestSpares_55 ⟨_, rfl, rfl, rfl, rfl, rfl, h⟩
def wp_X8_bestSpares (p1 : Nat) (I : MI) (v2 : Int32) (v3 : Int32) (Q : Int32 → Prop) : Prop :=
    (∃ N5, lp_X8_bestSpares_6 p1 I v3 (fun x6 => (jn_X8_bestSpares_48 I v3 x6 Q)) N5 v2 0)
set_option maxRecDepth 20000 in
theorem mt_X8_bestSpares {E : Ev} {l : Launch} {n : Nat} {R : MR} {p1 : Nat} (hn : 336 ≤ n) (hG : GRx R) (hp1 : isPlan p1) {I : MI} {L : ML} {v2 : Int32} {v3 : Int32} {Q : Int32 → Prop} (h : wp_X8_bestSpares p1 I v2 v3 Q) : MX E l rm_X8_bestSpares yX8_bestSpares cX8_bestSpares 6 (some .int) [.ref 326, .ref p1, .int v2, .int v3] n I L R (Qi n R (P00 I L Q)) := by
  refine MX_of (ls := [(0, .ref 326), (1, .ref p1), (2, .int v2), (3, .int v3)]) (by decide) (Nat.le_of_ble_eq_true rfl) rfl ?_
  unfold wp_X8_bestSpares at h
  refine x_iload_n dX8_bestSpares_0 rfl ?_
  refine x_istore (ls' := [(4, .int v2), (0, .ref 326), (1, .ref p1), (2, .int v2), (3, .int v3)]) dX8_bestSpares_1 (Nat.le_of_ble_eq_true rfl) rfl ?_
  refine x_iconst (v := 0) dX8_bestSpares_3 ki_0 ?_
  refine x_istore (ls' := [(5, .int 0), (4, .int v2), (0, .ref 326), (1, .ref p1), (2, .int v2), (3, .int v3)]) dX8_bestSpares_4 (Nat.le_of_ble_eq_true rfl) rfl ?_
  refine x_ls (ls' := [(0, .ref 326), (1, .ref p1), (3, .int v3), (4, .int v2), (5, .int 0)]) [2, 3, 5, 1, 0] rfl ?_
  obtain ⟨N5, h⟩ := h
  refine lpt_X8_bestSpares_6 hn hG hp1 (fun x6 h => ?_) N5 v2 0 h
  exact jnt_X8_bestSpares_48 hn hG hp1  h
abbrev rm_X8_buysOfBase : Room := { frames := 1, cells := 0, slots := 0, locals := 20 }
def jn_X8_buysOfBase_35 (v3 : Int32) (v4 : Int32) (kj5 : Int32 → Int32 → Prop) : Prop :=
    kj5 v3 (v4 + 1)
set_option maxRecDepth 20000 in
theorem jnt_X8_buysOfBase_35 {E : Ev} {l : Launch} {n : Nat} {R : MR} (hn : 336 ≤ n) (hG : GRx R) {Q : Int32 → Prop} {I : MI} {L : ML} {v1 : Int32} {v2 : Int32} {v3 : Int32} {v4 : Int32} {kj5 : Int32 → Int32 → Prop}
    (hJ5 : ∀ (v3 : Int32) (v4 : Int32), kj5 v3 v4 → X E l rm_X8_buysOfBase yX8_buysOfBase cX8_buysOfBase 5 (some .int) noX (ZM E rm_X8_buysOfBase (Qi n R (P00 I L Q))) 5 [(0, .ref 326), (1, .int v1), (2, .int v2), (3, .int v3), (4, .int v4)] [] n I L R 0 0) (h : jn_X8_buysOfBase_35 v3 v4 kj5) : X E l rm_X8_buysOfBase yX8_buysOfBase cX8_buysOfBase 5 (some .int) noX (ZM E rm_X8_buysOfBase (Qi n R (P00 I L Q))) 35 [(0, .ref 326), (1, .int v1), (2, .int v2), (3, .int v3), (4, .int v4)] [] n I L R 0 0 := by
  unfold jn_X8_buysOfBase_35 at h
  refine x_iinc (v := v4 + 1) (ls' := [(4, .int (v4 + 1)), (0, .ref 326), (1, .int v1), (2, .int v2), (3, .int v3)]) dX8_buysOfBase_35 rfl (congrArg (_ + ·) ki_1) (Nat.le_of_ble_eq_true rfl) rfl ?_
  refine x_goto dX8_buysOfBase_38 (tgt := 5) rfl ?_
  refine x_ls (ls' := [(0, .ref 326), (1, .int v1), (2, .int v2), (3, .int v3), (4, .int (v4 + 1))]) [1, 2, 3, 4, 0] rfl ?_
  exact hJ5 v3 (v4 + 1) h
def lp_X8_buysOfBase_5 (I : MI) (v1 : Int32) (v2 : Int32) (Q : Int32 → Prop) : Nat → Int32 → Int32 → Prop
  | 0, _, _ => False
  | n + 1, v3, v4 =>
    ((v1 ≤ v4 → Q v3) ∧ (¬ v1 ≤ v4 → ((72 ≤ v4 → Q v3) ∧ (¬ 72 ≤ v4 → (vp_in v4 72 ∧ (wp_X9_baseOf (I 329 (ix v4)) (fun x4 => (((¬ x4 = v2 → (jn_X8_buysOfBase_35 v3 v4 (fun x6 x7 => (lp_X8_buysOfBase_5 I v1 v2 Q n x6 x7)))) ∧ (x4 = v2 → (jn_X8_buysOfBase_35 (v3 + 1) v4 (fun x8 x9 => (lp_X8_buysOfBase_5 I v1 v2 Q n x8 x9)))))))))))))
set_option maxRecDepth 20000 in
theorem lpt_X8_buysOfBase_5 {E : Ev} {l : Launch} {n : Nat} {R : MR} (hn : 336 ≤ n) (hG : GRx R) {Q : Int32 → Prop} {v1 : Int32} {v2 : Int32} {I : MI} {L : ML} : ∀ (N : Nat) (v3 : Int32) (v4 : Int32), lp_X8_buysOfBase_5 I v1 v2 Q N v3 v4 → X E l rm_X8_buysOfBase yX8_buysOfBase cX8_buysOfBase 5 (some .int) noX (ZM E rm_X8_buysOfBase (Qi n R (P00 I L Q))) 5 [(0, .ref 326), (1, .int v1), (2, .int v2), (3, .int v3), (4, .int v4)] [] n I L R 0 0 := by
  intro N
  induction N with
  | zero => intro v3 v4 h; exact False.elim h
  | succ N ih =>
    intro v3 v4 h
    unfold lp_X8_buysOfBase_5 at h
    refine x_iload dX8_buysOfBase_5 rfl ?_
    refine x_iload_n dX8_buysOfBase_7 rfl ?_
    refine x_icmp_ge dX8_buysOfBase_8 (tgt := 41) rfl ⟨fun c1 => ?_, fun c1 => ?_⟩
    · have h := h.1 c1
      refine x_iload_n dX8_buysOfBase_41 rfl ?_
      exact x_ireturn dX8_buysOfBase_42 ⟨_, rfl, rfl, rfl, rfl, rfl, h⟩
    · have h := h.2 c1
      refine x_iload dX8_buysOfBase_11 rfl ?_
      refine x_bipush (v := 72) dX8_buysOfBase_13 kb_72 ?_
      refine x_icmp_ge dX8_buysOfBase_15 (tgt := 41) rfl ⟨fun c2 => ?_, fun c2 => ?_⟩
      · have h := h.1 c2
        refine x_iload_n dX8_buysOfBase_41 rfl ?_
        exact x_ireturn dX8_buysOfBase_42 ⟨_, rfl, rfl, rfl, rfl, rfl, h⟩
      · have h := h.2 c2
        refine x_aload_n dX8_buysOfBase_18 rfl ?_
        refine x_getr (j := 329) dX8_buysOfBase_19 fk_RX8_18 (kl rfl hn) sh_326 (rt_326_2 hG) ?_
        refine x_iload dX8_buysOfBase_22 rfl ?_
        obtain ⟨b3, h⟩ := h
        refine x_iaload dX8_buysOfBase_24 (kl rfl hn) sh_329 b3 ?_
        refine x_cNi00 [.int (I 329 (ix v4))] (mt_X9_baseOf hn hG h) dX8_buysOfBase_25 lk_RX8_110 rfl rfl (Nat.le_of_ble_eq_true rfl) (Rf_of rfl) (fun x4 h => ?_)
        refine x_iload_n dX8_buysOfBase_28 rfl ?_
        refine x_icmp_ne dX8_buysOfBase_29 (tgt := 35) rfl ⟨fun c5 => ?_, fun c5 => ?_⟩
        · have h := h.1 c5
          refine jnt_X8_buysOfBase_35 hn hG (fun x6 x7 h => ?_) h
          exact ih x6 x7 h
        · have h := h.2 c5
          refine x_iinc (v := v3 + 1) (ls' := [(3, .int (v3 + 1)), (0, .ref 326), (1, .int v1), (2, .int v2), (4, .int v4)]) dX8_buysOfBase_32 rfl (congrArg (_ + ·) ki_1) (Nat.le_of_ble_eq_true rfl) rfl ?_
          refine x_ls (ls' := [(0, .ref 326), (1, .int v1), (2, .int v2), (3, .int (v3 + 1)), (4, .int v4)]) [1, 2, 3, 0, 4] rfl ?_
          refine jnt_X8_buysOfBase_35 hn hG (fun x8 x9 h => ?_) h
          exact ih x8 x9 h
def wp_X8_buysOfBase (I : MI) (v1 : Int32) (v2 : Int32) (Q : Int32 → Prop) : Prop :=
    (∃ N10, lp_X8_buysOfBase_5 I v1 v2 Q N10 0 0)
set_option maxRecDepth 20000 in
theorem mt_X8_buysOfBase {E : Ev} {l : Launch} {n : Nat} {R : MR} (hn : 336 ≤ n) (hG : GRx R) {I : MI} {L : ML} {v1 : Int32} {v2 : Int32} {Q : Int32 → Prop} (h : wp_X8_buysOfBase I v1 v2 Q) : MX E l rm_X8_buysOfBase yX8_buysOfBase cX8_buysOfBase 5 (some .int) [.ref 326, .int v1, .int v2] n I L R (Qi n R (P00 I L Q)) := by
  refine MX_of (ls := [(0, .ref 326), (1, .int v1), (2, .int v2)]) (by decide) (Nat.le_of_ble_eq_true rfl) rfl ?_
  unfold wp_X8_buysOfBase at h
  refine x_iconst (v := 0) dX8_buysOfBase_0 ki_0 ?_
  refine x_istore_n (ls' := [(3, .int 0), (0, .ref 326), (1, .int v1), (2, .int v2)]) dX8_buysOfBase_1 (Nat.le_of_ble_eq_true rfl) rfl ?_
  refine x_iconst (v := 0) dX8_buysOfBase_2 ki_0 ?_
  refine x_istore (ls' := [(4, .int 0), (3, .int 0), (0, .ref 326), (1, .int v1), (2, .int v2)]) dX8_buysOfBase_3 (Nat.le_of_ble_eq_true rfl) rfl ?_
  refine x_ls (ls' := [(0, .ref 326), (1, .int v1), (2, .int v2), (3, .int 0), (4, .int 0)]) [2, 3, 4, 1, 0] rfl ?_
  obtain ⟨N10, h⟩ := h
  exact lpt_X8_buysOfBase_5 hn hG  N10 0 0 h
abbrev rm_X8_buysWithin : Room := { frames := 0, cells := 0, slots := 0, locals := 0 }
def lp_X8_buysWithin_2 (I : MI) (v1 : Int32) (Q : Int32 → Prop) : Nat → Int32 → Prop
  | 0, _ => False
  | n + 1, v2 =>
    (((I 326 5) ≤ v2 → Q v2) ∧ (¬ (I 326 5) ≤ v2 → ((72 ≤ v2 → Q v2) ∧ (¬ 72 ≤ v2 → (vp_in v2 72 ∧ ((v1 < (I 331 (ix v2)) → Q v2) ∧ (¬ v1 < (I 331 (ix v2)) → (lp_X8_buysWithin_2 I v1 Q n (v2 + 1)))))))))
set_option maxRecDepth 20000 in
theorem lpt_X8_buysWithin_2 {E : Ev} {l : Launch} {n : Nat} {R : MR} (hn : 336 ≤ n) (hG : GRx R) {Q : Int32 → Prop} {v1 : Int32} {I : MI} {L : ML} : ∀ (N : Nat) (v2 : Int32), lp_X8_buysWithin_2 I v1 Q N v2 → X E l rm_X8_buysWithin yX8_buysWithin cX8_buysWithin 3 (some .int) noX (ZM E rm_X8_buysWithin (Qi n R (P00 I L Q))) 2 [(0, .ref 326), (1, .int v1), (2, .int v2)] [] n I L R 0 0 := by
  intro N
  induction N with
  | zero => intro v2 h; exact False.elim h
  | succ N ih =>
    intro v2 h
    unfold lp_X8_buysWithin_2 at h
    refine x_iload_n dX8_buysWithin_2 rfl ?_
    refine x_aload_n dX8_buysWithin_3 rfl ?_
    refine x_geti dX8_buysWithin_4 fk_RX8_28 (kl rfl hn) sh_326 ?_
    refine x_icmp_ge dX8_buysWithin_7 (tgt := 32) rfl ⟨fun c1 => ?_, fun c1 => ?_⟩
    · have h := h.1 c1
      refine x_iload_n dX8_buysWithin_32 rfl ?_
      exact x_ireturn dX8_buysWithin_33 ⟨_, rfl, rfl, rfl, rfl, rfl, h⟩
    · have h := h.2 c1
      refine x_iload_n dX8_buysWithin_10 rfl ?_
      refine x_bipush (v := 72) dX8_buysWithin_11 kb_72 ?_
      refine x_icmp_ge dX8_buysWithin_13 (tgt := 32) rfl ⟨fun c2 => ?_, fun c2 => ?_⟩
      · have h := h.1 c2
        refine x_iload_n dX8_buysWithin_32 rfl ?_
        exact x_ireturn dX8_buysWithin_33 ⟨_, rfl, rfl, rfl, rfl, rfl, h⟩
      · have h := h.2 c2
        refine x_aload_n dX8_buysWithin_16 rfl ?_
        refine x_getr (j := 331) dX8_buysWithin_17 fk_RX8_25 (kl rfl hn) sh_326 (rt_326_4 hG) ?_
        refine x_iload_n dX8_buysWithin_20 rfl ?_
        obtain ⟨b3, h⟩ := h
        refine x_iaload dX8_buysWithin_21 (kl rfl hn) sh_331 b3 ?_
        refine x_iload_n dX8_buysWithin_22 rfl ?_
        refine x_icmp_gt dX8_buysWithin_23 (tgt := 32) rfl ⟨fun c4 => ?_, fun c4 => ?_⟩
        · have h := h.1 c4
          refine x_iload_n dX8_buysWithin_32 rfl ?_
          exact x_ireturn dX8_buysWithin_33 ⟨_, rfl, rfl, rfl, rfl, rfl, h⟩
        · have h := h.2 c4
          refine x_iinc (v := v2 + 1) (ls' := [(2, .int (v2 + 1)), (0, .ref 326), (1, .int v1)]) dX8_buysWithin_26 rfl (congrArg (_ + ·) ki_1) (Nat.le_of_ble_eq_true rfl) rfl ?_
          refine x_goto dX8_buysWithin_29 (tgt := 2) rfl ?_
          refine x_ls (ls' := [(0, .ref 326), (1, .int v1), (2, .int (v2 + 1))]) [1, 2, 0] rfl ?_
          exact ih (v2 + 1) h
def wp_X8_buysWithin (I : MI) (v1 : Int32) (Q : Int32 → Prop) : Prop :=
    (∃ N5, lp_X8_buysWithin_2 I v1 Q N5 0)
set_option maxRecDepth 20000 in
theorem mt_X8_buysWithin {E : Ev} {l : Launch} {n : Nat} {R : MR} (hn : 336 ≤ n) (hG : GRx R) {I : MI} {L : ML} {v1 : Int32} {Q : Int32 → Prop} (h : wp_X8_buysWithin I v1 Q) : MX E l rm_X8_buysWithin yX8_buysWithin cX8_buysWithin 3 (some .int) [.ref 326, .int v1] n I L R (Qi n R (P00 I L Q)) := by
  refine MX_of (ls := [(0, .ref 326), (1, .int v1)]) (by decide) (Nat.le_of_ble_eq_true rfl) rfl ?_
  unfold wp_X8_buysWithin at h
  refine x_iconst (v := 0) dX8_buysWithin_0 ki_0 ?_
  refine x_istore_n (ls' := [(2, .int 0), (0, .ref 326), (1, .int v1)]) dX8_buysWithin_1 (Nat.le_of_ble_eq_true rfl) rfl ?_
  refine x_ls (ls' := [(0, .ref 326), (1, .int v1), (2, .int 0)]) [1, 2, 0] rfl ?_
  obtain ⟨N5, h⟩ := h
  exact lpt_X8_buysWithin_2 hn hG  N5 0 h
abbrev rm_X8_countBuys : Room := { frames := 0, cells := 0, slots := 0, locals := 0 }
def lp_X8_countBuys_2 (kf21 : MI → Prop) : Nat → Int32 → MI → Prop
  | 0, _, _ => False
  | n + 1, v2, I =>
    ((16 ≤ v2 → kf21 I) ∧ (¬ 16 ≤ v2 → (vp_in v2 16 ∧ (∀ I3, I3 = u2 I 332 (ix v2) 0 → (lp_X8_countBuys_2 kf21 n (v2 + 1) I3)))))
set_option maxRecDepth 20000 in
theorem lpt_X8_countBuys_2 {E : Ev} {l : Launch} {n : Nat} {R : MR} (hn : 336 ≤ n) (hG : GRx R) {I0 : MI} {Q : MI → Prop} {v1 : Int32} {L : ML} {kf21 : MI → Prop}
    (hK21 : ∀ (I : MI), kf21 I → X E l rm_X8_countBuys yX8_countBuys cX8_countBuys 3 none noX (ZM E rm_X8_countBuys (Qv n R (V10 I0 L Q))) 21 [(0, .ref 326), (1, .int v1)] [] n I L R 0 0) : ∀ (N : Nat) (v2 : Int32) (I : MI), lp_X8_countBuys_2 kf21 N v2 I → X E l rm_X8_countBuys yX8_countBuys cX8_countBuys 3 none noX (ZM E rm_X8_countBuys (Qv n R (V10 I0 L Q))) 2 [(0, .ref 326), (1, .int v1), (2, .int v2)] [] n I L R 0 0 := by
  intro N
  induction N with
  | zero => intro v2 I h; exact False.elim h
  | succ N ih =>
    intro v2 I h
    unfold lp_X8_countBuys_2 at h
    refine x_iload_n dX8_countBuys_2 rfl ?_
    refine x_bipush (v := 16) dX8_countBuys_3 kb_16 ?_
    refine x_icmp_ge dX8_countBuys_5 (tgt := 21) rfl ⟨fun c1 => ?_, fun c1 => ?_⟩
    · have h := h.1 c1
      refine x_ls (ls' := [(0, .ref 326), (1, .int v1)]) [0, 1] rfl ?_
      exact hK21 I h
    · have h := h.2 c1
      refine x_aload_n dX8_countBuys_8 rfl ?_
      refine x_getr (j := 332) dX8_countBuys_9 fk_RX8_32 (kl rfl hn) sh_326 (rt_326_6 hG) ?_
      refine x_iload_n dX8_countBuys_12 rfl ?_
      refine x_iconst (v := 0) dX8_countBuys_13 ki_0 ?_
      obtain ⟨b2, h⟩ := h
      refine x_iastore dX8_countBuys_14 (kl rfl hn) sh_332 b2 (fun I3 eI3 => ?_)
      have h := h I3 eI3
      refine x_iinc (v := v2 + 1) (ls' := [(2, .int (v2 + 1)), (0, .ref 326), (1, .int v1)]) dX8_countBuys_15 rfl (congrArg (_ + ·) ki_1) (Nat.le_of_ble_eq_true rfl) rfl ?_
      refine x_goto dX8_countBuys_18 (tgt := 2) rfl ?_
      refine x_ls (ls' := [(0, .ref 326), (1, .int v1), (2, .int (v2 + 1))]) [1, 2, 0] rfl ?_
      exact ih (v2 + 1) I3 h
def lp_X8_countBuys_23 (v1 : Int32) (Q : MI → Prop) : Nat → Int32 → MI → Prop
  | 0, _, _ => False
  | n + 1, v2, I =>
    ((v1 ≤ v2 → Q I) ∧ (¬ v1 ≤ v2 → ((72 ≤ v2 → Q I) ∧ (¬ 72 ≤ v2 → (vp_in v2 72 ∧ (vp_in ((I 329 (ix v2)) &&& 15) 16 ∧ (vp_in ((I 329 (ix v2)) &&& 15) 16 ∧ (∀ I11, I11 = u2 I 332 (ix ((I 329 (ix v2)) &&& 15)) ((I 332 (ix ((I 329 (ix v2)) &&& 15))) + 1) → (lp_X8_countBuys_23 v1 Q n (v2 + 1) I11)))))))))
set_option maxRecDepth 20000 in
theorem lpt_X8_countBuys_23 {E : Ev} {l : Launch} {n : Nat} {R : MR} (hn : 336 ≤ n) (hG : GRx R) {I0 : MI} {Q : MI → Prop} {v1 : Int32} {L : ML} : ∀ (N : Nat) (v2 : Int32) (I : MI), lp_X8_countBuys_23 v1 Q N v2 I → X E l rm_X8_countBuys yX8_countBuys cX8_countBuys 3 none noX (ZM E rm_X8_countBuys (Qv n R (V10 I0 L Q))) 23 [(0, .ref 326), (1, .int v1), (2, .int v2)] [] n I L R 0 0 := by
  intro N
  induction N with
  | zero => intro v2 I h; exact False.elim h
  | succ N ih =>
    intro v2 I h
    unfold lp_X8_countBuys_23 at h
    refine x_iload_n dX8_countBuys_23 rfl ?_
    refine x_iload_n dX8_countBuys_24 rfl ?_
    refine x_icmp_ge dX8_countBuys_25 (tgt := 58) rfl ⟨fun c6 => ?_, fun c6 => ?_⟩
    · have h := h.1 c6
      exact x_return dX8_countBuys_58 ⟨rfl, rfl, rfl, rfl, h⟩
    · have h := h.2 c6
      refine x_iload_n dX8_countBuys_28 rfl ?_
      refine x_bipush (v := 72) dX8_countBuys_29 kb_72 ?_
      refine x_icmp_ge dX8_countBuys_31 (tgt := 58) rfl ⟨fun c7 => ?_, fun c7 => ?_⟩
      · have h := h.1 c7
        exact x_return dX8_countBuys_58 ⟨rfl, rfl, rfl, rfl, h⟩
      · have h := h.2 c7
        refine x_aload_n dX8_countBuys_34 rfl ?_
        refine x_getr (j := 332) dX8_countBuys_35 fk_RX8_32 (kl rfl hn) sh_326 (rt_326_6 hG) ?_
        refine x_aload_n dX8_countBuys_38 rfl ?_
        refine x_getr (j := 329) dX8_countBuys_39 fk_RX8_18 (kl rfl hn) sh_326 (rt_326_2 hG) ?_
        refine x_iload_n dX8_countBuys_42 rfl ?_
        obtain ⟨b8, h⟩ := h
        refine x_iaload dX8_countBuys_43 (kl rfl hn) sh_329 b8 ?_
        refine x_bipush (v := 15) dX8_countBuys_44 kb_15 ?_
        refine x_iand dX8_countBuys_46 ?_
        refine x_dup2 dX8_countBuys_47 rfl rfl ?_
        obtain ⟨b9, h⟩ := h
        refine x_iaload dX8_countBuys_48 (kl rfl hn) sh_332 b9 ?_
        refine x_iconst (v := 1) dX8_countBuys_49 ki_1 ?_
        refine x_iadd dX8_countBuys_50 ?_
        obtain ⟨b10, h⟩ := h
        refine x_iastore dX8_countBuys_51 (kl rfl hn) sh_332 b10 (fun I11 eI11 => ?_)
        have h := h I11 eI11
        refine x_iinc (v := v2 + 1) (ls' := [(2, .int (v2 + 1)), (0, .ref 326), (1, .int v1)]) dX8_countBuys_52 rfl (congrArg (_ + ·) ki_1) (Nat.le_of_ble_eq_true rfl) rfl ?_
        refine x_goto dX8_countBuys_55 (tgt := 23) rfl ?_
        refine x_ls (ls' := [(0, .ref 326), (1, .int v1), (2, .int (v2 + 1))]) [1, 2, 0] rfl ?_
        exact ih (v2 + 1) I11 h
def wp_X8_countBuys (I : MI) (v1 : Int32) (Q : MI → Prop) : Prop :=
    (∃ N4, lp_X8_countBuys_2 (fun I5 => (∃ N12, lp_X8_countBuys_23 v1 Q N12 0 I5)) N4 0 I)
set_option maxRecDepth 20000 in
theorem mt_X8_countBuys {E : Ev} {l : Launch} {n : Nat} {R : MR} (hn : 336 ≤ n) (hG : GRx R) {I : MI} {L : ML} {v1 : Int32} {Q : MI → Prop} (h : wp_X8_countBuys I v1 Q) : MX E l rm_X8_countBuys yX8_countBuys cX8_countBuys 3 none [.ref 326, .int v1] n I L R (Qv n R (V10 I L Q)) := by
  refine MX_of (ls := [(0, .ref 326), (1, .int v1)]) (by decide) (Nat.le_of_ble_eq_true rfl) rfl ?_
  unfold wp_X8_countBuys at h
  refine x_iconst (v := 0) dX8_countBuys_0 ki_0 ?_
  refine x_istore_n (ls' := [(2, .int 0), (0, .ref 326), (1, .int v1)]) dX8_countBuys_1 (Nat.le_of_ble_eq_true rfl) rfl ?_
  refine x_ls (ls' := [(0, .ref 326), (1, .int v1), (2, .int 0)]) [1, 2, 0] rfl ?_
  obtain ⟨N4, h⟩ := h
  refine lpt_X8_countBuys_2 hn hG (fun I5 h => ?_) N4 0 I h
  refine x_iconst (v := 0) dX8_countBuys_21 ki_0 ?_
  refine x_istore_n (ls' := [(2, .int 0), (0, .ref 326), (1, .int v1)]) dX8_countBuys_22 (Nat.le_of_ble_eq_true rfl) rfl ?_
  refine x_ls (ls' := [(0, .ref 326), (1, .int v1), (2, .int 0)]) [1, 2, 0] rfl ?_
  obtain ⟨N12, h⟩ := h
  exact lpt_X8_countBuys_23 hn hG  N12 0 I5 h
abbrev rm_X8_outOf : Room := { frames := 0, cells := 0, slots := 0, locals := 0 }
def wp_X8_outOf (L : ML) (v1 : Int32) (v2 : Int32) (Q : Int64 → Prop) : Prop :=
    ((v2 < 0 → Q 0) ∧ (¬ v2 < 0 → ((9 ≤ v2 → Q 0) ∧ (¬ 9 ≤ v2 → ((((v1 * 9) + v2) < 0 → Q 0) ∧ (¬ ((v1 * 9) + v2) < 0 → ((144 ≤ ((v1 * 9) + v2) → Q 0) ∧ (¬ 144 ≤ ((v1 * 9) + v2) → (vp_in ((v1 * 9) + v2) 144 ∧ Q (L 327 (ix ((v1 * 9) + v2))))))))))))
set_option maxRecDepth 20000 in
theorem mt_X8_outOf {E : Ev} {l : Launch} {n : Nat} {R : MR} (hn : 336 ≤ n) (hG : GRx R) {I : MI} {L : ML} {v1 : Int32} {v2 : Int32} {Q : Int64 → Prop} (h : wp_X8_outOf L v1 v2 Q) : MX E l rm_X8_outOf yX8_outOf cX8_outOf 4 (some .long) [.ref 326, .int v1, .int v2] n I L R (Ql n R (P00 I L Q)) := by
  refine MX_of (ls := [(0, .ref 326), (1, .int v1), (2, .int v2)]) (by decide) (Nat.le_of_ble_eq_true rfl) rfl ?_
  unfold wp_X8_outOf at h
  refine x_iload_n dX8_outOf_0 rfl ?_
  refine x_bipush (v := 9) dX8_outOf_1 kb_9 ?_
  refine x_imul dX8_outOf_3 ?_
  refine x_iload_n dX8_outOf_4 rfl ?_
  refine x_iadd dX8_outOf_5 ?_
  refine x_istore_n (ls' := [(3, .int ((v1 * 9) + v2)), (0, .ref 326), (1, .int v1), (2, .int v2)]) dX8_outOf_6 (Nat.le_of_ble_eq_true rfl) rfl ?_
  refine x_iload_n dX8_outOf_7 rfl ?_
  refine x_if_lt dX8_outOf_8 (tgt := 39) rfl ⟨fun c1 => ?_, fun c1 => ?_⟩
  · have h := h.1 c1
    refine x_lconst (v := 0) dX8_outOf_39 rfl ?_
    exact x_lreturn dX8_outOf_40 ⟨_, rfl, rfl, rfl, rfl, rfl, h⟩
  · have h := h.2 c1
    refine x_iload_n dX8_outOf_11 rfl ?_
    refine x_bipush (v := 9) dX8_outOf_12 kb_9 ?_
    refine x_icmp_ge dX8_outOf_14 (tgt := 39) rfl ⟨fun c2 => ?_, fun c2 => ?_⟩
    · have h := h.1 c2
      refine x_lconst (v := 0) dX8_outOf_39 rfl ?_
      exact x_lreturn dX8_outOf_40 ⟨_, rfl, rfl, rfl, rfl, rfl, h⟩
    · have h := h.2 c2
      refine x_iload_n dX8_outOf_17 rfl ?_
      refine x_if_lt dX8_outOf_18 (tgt := 39) rfl ⟨fun c3 => ?_, fun c3 => ?_⟩
      · have h := h.1 c3
        refine x_lconst (v := 0) dX8_outOf_39 rfl ?_
        exact x_lreturn dX8_outOf_40 ⟨_, rfl, rfl, rfl, rfl, rfl, h⟩
      · have h := h.2 c3
        refine x_iload_n dX8_outOf_21 rfl ?_
        refine x_aload_n dX8_outOf_22 rfl ?_
        refine x_getr (j := 327) dX8_outOf_23 fk_RX8_11 (kl rfl hn) sh_326 (rt_326_0 hG) ?_
        refine x_alen (v := 144) dX8_outOf_26 (kl rfl hn) sh_327 (by decide) rfl ?_
        refine x_icmp_ge dX8_outOf_27 (tgt := 39) rfl ⟨fun c4 => ?_, fun c4 => ?_⟩
        · have h := h.1 c4
          refine x_lconst (v := 0) dX8_outOf_39 rfl ?_
          exact x_lreturn dX8_outOf_40 ⟨_, rfl, rfl, rfl, rfl, rfl, h⟩
        · have h := h.2 c4
          refine x_aload_n dX8_outOf_30 rfl ?_
          refine x_getr (j := 327) dX8_outOf_31 fk_RX8_11 (kl rfl hn) sh_326 (rt_326_0 hG) ?_
          refine x_iload_n dX8_outOf_34 rfl ?_
          obtain ⟨b5, h⟩ := h
          refine x_laload dX8_outOf_35 (kl rfl hn) sh_327 b5 ?_
          refine x_goto dX8_outOf_36 (tgt := 40) rfl ?_
          exact x_lreturn dX8_outOf_40 ⟨_, rfl, rfl, rfl, rfl, rfl, h⟩
abbrev rm_X8_fillLack : Room := { frames := 1, cells := 0, slots := 0, locals := 23 }
def lp_X8_fillLack_38 (L : ML) (v1 : Int32) (v3 : Int32) (kf69 : Int64 → Prop) : Nat → Int64 → Int32 → Prop
  | 0, _, _ => False
  | n + 1, v4, v6 =>
    ((9 ≤ v6 → kf69 v4) ∧ (¬ 9 ≤ v6 → (wp_X8_outOf L v1 v6 (fun x5 => ((lp_X8_fillLack_38 L v1 v3 kf69 n (v4 + (((v6 - v3).toInt64) * x5)) (v6 + 1)))))))
set_option maxRecDepth 20000 in
theorem lpt_X8_fillLack_38 {E : Ev} {l : Launch} {n : Nat} {R : MR} (hn : 336 ≤ n) (hG : GRx R) {L0 : ML} {Q : ML → Prop} {L : ML} {v1 : Int32} {v2 : Int32} {v3 : Int32} {I : MI} {kf69 : Int64 → Prop}
    (hK69 : ∀ (v4 : Int64), kf69 v4 → X E l rm_X8_fillLack yX8_fillLack cX8_fillLack 7 none noX (ZM E rm_X8_fillLack (Qv n R (V01 I L0 Q))) 69 [(0, .ref 326), (1, .int v1), (2, .int v2), (3, .int v3), (4, .long v4)] [] n I L R 0 0) : ∀ (N : Nat) (v4 : Int64) (v6 : Int32), lp_X8_fillLack_38 L v1 v3 kf69 N v4 v6 → X E l rm_X8_fillLack yX8_fillLack cX8_fillLack 7 none noX (ZM E rm_X8_fillLack (Qv n R (V01 I L0 Q))) 38 [(0, .ref 326), (1, .int v1), (2, .int v2), (3, .int v3), (4, .long v4), (6, .int v6)] [] n I L R 0 0 := by
  intro N
  induction N with
  | zero => intro v4 v6 h; exact False.elim h
  | succ N ih =>
    intro v4 v6 h
    unfold lp_X8_fillLack_38 at h
    refine x_iload dX8_fillLack_38 rfl ?_
    refine x_bipush (v := 9) dX8_fillLack_40 kb_9 ?_
    refine x_icmp_ge dX8_fillLack_42 (tgt := 69) rfl ⟨fun c4 => ?_, fun c4 => ?_⟩
    · have h := h.1 c4
      refine x_ls (ls' := [(0, .ref 326), (1, .int v1), (2, .int v2), (3, .int v3), (4, .long v4)]) [0, 1, 2, 3, 4] rfl ?_
      exact hK69 v4 h
    · have h := h.2 c4
      refine x_lload dX8_fillLack_45 rfl ?_
      refine x_iload dX8_fillLack_47 rfl ?_
      refine x_iload_n dX8_fillLack_49 rfl ?_
      refine x_isub dX8_fillLack_50 ?_
      refine x_i2l dX8_fillLack_51 ?_
      refine x_aload_n dX8_fillLack_52 rfl ?_
      refine x_iload_n dX8_fillLack_53 rfl ?_
      refine x_iload dX8_fillLack_54 rfl ?_
      refine x_cVl00 [.int v1, .int v6] (mt_X8_outOf hn hG h) dX8_fillLack_56 lk_RX8_70 (kl rfl hn) sh_326 rfl rfl (Nat.le_of_ble_eq_true rfl) (Rf_of rfl) (fun x5 h => ?_)
      refine x_lmul dX8_fillLack_59 ?_
      refine x_ladd dX8_fillLack_60 ?_
      refine x_lstore (ls' := [(4, .long (v4 + (((v6 - v3).toInt64) * x5))), (0, .ref 326), (1, .int v1), (2, .int v2), (3, .int v3), (6, .int v6)]) dX8_fillLack_61 (Nat.le_of_ble_eq_true rfl) rfl ?_
      refine x_iinc (v := v6 + 1) (ls' := [(6, .int (v6 + 1)), (4, .long (v4 + (((v6 - v3).toInt64) * x5))), (0, .ref 326), (1, .int v1), (2, .int v2), (3, .int v3)]) dX8_fillLack_63 rfl (congrArg (_ + ·) ki_1) (Nat.le_of_ble_eq_true rfl) rfl ?_
      refine x_goto dX8_fillLack_66 (tgt := 38) rfl ?_
      refine x_ls (ls' := [(0, .ref 326), (1, .int v1), (2, .int v2), (3, .int v3), (4, .long (v4 + (((v6 - v3).toInt64) * x5))), (6, .int (v6 + 1))]) [2, 3, 4, 5, 1, 0] rfl ?_
      exact ih (v4 + (((v6 - v3).toInt64) * x5)) (v6 + 1) h
def lp_X8_fillLack_24 (v1 : Int32) (v2 : Int32) (Q : ML → Prop) : Nat → Int32 → ML → Prop
  | 0, _, _ => False
  | n + 1, v3, L =>
    ((10 ≤ v3 → Q L) ∧ (¬ 10 ≤ v3 → (∃ N6, lp_X8_fillLack_38 L v1 v3 (fun x7 => (vp_in (v2 + v3) 160 ∧ (∀ L9, L9 = u2 L 328 (ix (v2 + v3)) x7 → (lp_X8_fillLack_24 v1 v2 Q n (v3 + 1) L9)))) N6 0 (v3 + 1))))
set_option maxRecDepth 20000 in
theorem lpt_X8_fillLack_24 {E : Ev} {l : Launch} {n : Nat} {R : MR} (hn : 336 ≤ n) (hG : GRx R) {L0 : ML} {Q : ML → Prop} {v1 : Int32} {v2 : Int32} {I : MI} : ∀ (N : Nat) (v3 : Int32) (L : ML), lp_X8_fillLack_24 v1 v2 Q N v3 L → X E l rm_X8_fillLack yX8_fillLack cX8_fillLack 7 none noX (ZM E rm_X8_fillLack (Qv n R (V01 I L0 Q))) 24 [(0, .ref 326), (1, .int v1), (2, .int v2), (3, .int v3)] [] n I L R 0 0 := by
  intro N
  induction N with
  | zero => intro v3 L h; exact False.elim h
  | succ N ih =>
    intro v3 L h
    unfold lp_X8_fillLack_24 at h
    refine x_iload_n dX8_fillLack_24 rfl ?_
    refine x_bipush (v := 10) dX8_fillLack_25 kb_10 ?_
    refine x_icmp_ge dX8_fillLack_27 (tgt := 85) rfl ⟨fun c3 => ?_, fun c3 => ?_⟩
    · have h := h.1 c3
      exact x_return dX8_fillLack_85 ⟨rfl, rfl, rfl, rfl, h⟩
    · have h := h.2 c3
      refine x_lconst (v := 0) dX8_fillLack_30 rfl ?_
      refine x_lstore (ls' := [(4, .long 0), (0, .ref 326), (1, .int v1), (2, .int v2), (3, .int v3)]) dX8_fillLack_31 (Nat.le_of_ble_eq_true rfl) rfl ?_
      refine x_iload_n dX8_fillLack_33 rfl ?_
      refine x_iconst (v := 1) dX8_fillLack_34 ki_1 ?_
      refine x_iadd dX8_fillLack_35 ?_
      refine x_istore (ls' := [(6, .int (v3 + 1)), (4, .long 0), (0, .ref 326), (1, .int v1), (2, .int v2), (3, .int v3)]) dX8_fillLack_36 (Nat.le_of_ble_eq_true rfl) rfl ?_
      refine x_ls (ls' := [(0, .ref 326), (1, .int v1), (2, .int v2), (3, .int v3), (4, .long 0), (6, .int (v3 + 1))]) [2, 3, 4, 5, 1, 0] rfl ?_
      obtain ⟨N6, h⟩ := h
      refine lpt_X8_fillLack_38 hn hG (fun x7 h => ?_) N6 0 (v3 + 1) h
      refine x_aload_n dX8_fillLack_69 rfl ?_
      refine x_getr (j := 328) dX8_fillLack_70 fk_RX8_15 (kl rfl hn) sh_326 (rt_326_1 hG) ?_
      refine x_iload_n dX8_fillLack_73 rfl ?_
      refine x_iload_n dX8_fillLack_74 rfl ?_
      refine x_iadd dX8_fillLack_75 ?_
      refine x_lload dX8_fillLack_76 rfl ?_
      obtain ⟨b8, h⟩ := h
      refine x_lastore dX8_fillLack_78 (kl rfl hn) sh_328 b8 (fun L9 eL9 => ?_)
      have h := h L9 eL9
      refine x_iinc (v := v3 + 1) (ls' := [(3, .int (v3 + 1)), (0, .ref 326), (1, .int v1), (2, .int v2), (4, .long x7)]) dX8_fillLack_79 rfl (congrArg (_ + ·) ki_1) (Nat.le_of_ble_eq_true rfl) rfl ?_
      refine x_goto dX8_fillLack_82 (tgt := 24) rfl ?_
      refine x_ls (ls' := [(0, .ref 326), (1, .int v1), (2, .int v2), (3, .int (v3 + 1))]) [1, 2, 3, 0] rfl ?_
      exact ih (v3 + 1) L9 h
def wp_X8_fillLack (L : ML) (v1 : Int32) (Q : ML → Prop) : Prop :=
    (((v1 * 10) < 0 → Q L) ∧ (¬ (v1 * 10) < 0 → ((((v1 * 10) + 10) ≤ 160 → (∃ N10, lp_X8_fillLack_24 v1 (v1 * 10) Q N10 0 L)) ∧ (¬ ((v1 * 10) + 10) ≤ 160 → Q L))))
set_option maxRecDepth 20000 in
theorem mt_X8_fillLack {E : Ev} {l : Launch} {n : Nat} {R : MR} (hn : 336 ≤ n) (hG : GRx R) {I : MI} {L : ML} {v1 : Int32} {Q : ML → Prop} (h : wp_X8_fillLack L v1 Q) : MX E l rm_X8_fillLack yX8_fillLack cX8_fillLack 7 none [.ref 326, .int v1] n I L R (Qv n R (V01 I L Q)) := by
  refine MX_of (ls := [(0, .ref 326), (1, .int v1)]) (by decide) (Nat.le_of_ble_eq_true rfl) rfl ?_
  unfold wp_X8_fillLack at h
  refine x_iload_n dX8_fillLack_0 rfl ?_
  refine x_bipush (v := 10) dX8_fillLack_1 kb_10 ?_
  refine x_imul dX8_fillLack_3 ?_
  refine x_istore_n (ls' := [(2, .int (v1 * 10)), (0, .ref 326), (1, .int v1)]) dX8_fillLack_4 (Nat.le_of_ble_eq_true rfl) rfl ?_
  refine x_iload_n dX8_fillLack_5 rfl ?_
  refine x_if_lt dX8_fillLack_6 (tgt := 21) rfl ⟨fun c1 => ?_, fun c1 => ?_⟩
  · have h := h.1 c1
    exact x_return dX8_fillLack_21 ⟨rfl, rfl, rfl, rfl, h⟩
  · have h := h.2 c1
    refine x_iload_n dX8_fillLack_9 rfl ?_
    refine x_bipush (v := 10) dX8_fillLack_10 kb_10 ?_
    refine x_iadd dX8_fillLack_12 ?_
    refine x_aload_n dX8_fillLack_13 rfl ?_
    refine x_getr (j := 328) dX8_fillLack_14 fk_RX8_15 (kl rfl hn) sh_326 (rt_326_1 hG) ?_
    refine x_alen (v := 160) dX8_fillLack_17 (kl rfl hn) sh_328 (by decide) rfl ?_
    refine x_icmp_le dX8_fillLack_18 (tgt := 22) rfl ⟨fun c2 => ?_, fun c2 => ?_⟩
    · have h := h.1 c2
      refine x_iconst (v := 0) dX8_fillLack_22 ki_0 ?_
      refine x_istore_n (ls' := [(3, .int 0), (2, .int (v1 * 10)), (0, .ref 326), (1, .int v1)]) dX8_fillLack_23 (Nat.le_of_ble_eq_true rfl) rfl ?_
      refine x_ls (ls' := [(0, .ref 326), (1, .int v1), (2, .int (v1 * 10)), (3, .int 0)]) [2, 3, 1, 0] rfl ?_
      obtain ⟨N10, h⟩ := h
      exact lpt_X8_fillLack_24 hn hG  N10 0 L h
    · have h := h.2 c2
      exact x_return dX8_fillLack_21 ⟨rfl, rfl, rfl, rfl, h⟩
abbrev rm_X8_fillOuts : Room := { frames := 0, cells := 0, slots := 0, locals := 0 }
def jn_X8_fillOuts_54 (L : ML) (v5 : Int32) (s0 : Int64) (s1 : Int32) (kj28 : Int32 → ML → Prop) : Prop :=
    (vp_in s1 144 ∧ (∀ L6, L6 = u2 L 327 (ix s1) s0 → kj28 (v5 + 1) L6))
set_option maxRecDepth 20000 in
theorem jnt_X8_fillOuts_54 {E : Ev} {l : Launch} {n : Nat} {R : MR} (hn : 336 ≤ n) (hG : GRx R) {L0 : ML} {Q : ML → Prop} {I : MI} {L : ML} {v2 : Int32} {v3 : Int32} {v4 : Int32} {v5 : Int32} {s0 : Int64} {s1 : Int32} {kj28 : Int32 → ML → Prop}
    (hJ28 : ∀ (v5 : Int32) (L : ML), kj28 v5 L → X E l rm_X8_fillOuts yX8_fillOuts cX8_fillOuts 8 none noX (ZM E rm_X8_fillOuts (Qv n R (V01 I L0 Q))) 28 [(0, .ref 326), (2, .int v2), (3, .int v3), (4, .int v4), (5, .int v5)] [] n I L R 0 0) (h : jn_X8_fillOuts_54 L v5 s0 s1 kj28) : X E l rm_X8_fillOuts yX8_fillOuts cX8_fillOuts 8 none noX (ZM E rm_X8_fillOuts (Qv n R (V01 I L0 Q))) 54 [(0, .ref 326), (2, .int v2), (3, .int v3), (4, .int v4), (5, .int v5)] [.long s0, .int s1, .ref 327] n I L R 0 0 := by
  unfold jn_X8_fillOuts_54 at h
  obtain ⟨b5, h⟩ := h
  refine x_lastore dX8_fillOuts_54 (kl rfl hn) sh_327 b5 (fun L6 eL6 => ?_)
  have h := h L6 eL6
  refine x_iinc (v := v5 + 1) (ls' := [(5, .int (v5 + 1)), (0, .ref 326), (2, .int v2), (3, .int v3), (4, .int v4)]) dX8_fillOuts_55 rfl (congrArg (_ + ·) ki_1) (Nat.le_of_ble_eq_true rfl) rfl ?_
  refine x_goto dX8_fillOuts_58 (tgt := 28) rfl ?_
  refine x_ls (ls' := [(0, .ref 326), (2, .int v2), (3, .int v3), (4, .int v4), (5, .int (v5 + 1))]) [1, 2, 3, 4, 0] rfl ?_
  exact hJ28 (v5 + 1) L6 h
def lp_X8_fillOuts_28 (v4 : Int32) (kf61 : ML → Prop) : Nat → Int32 → ML → Prop
  | 0, _, _ => False
  | n + 1, v5, L =>
    ((9 ≤ v5 → kf61 L) ∧ (¬ 9 ≤ v5 → ((¬ v5 = 0 → (jn_X8_fillOuts_54 L v5 0 (v4 + v5) (fun x7 L8 => (lp_X8_fillOuts_28 v4 kf61 n x7 L8)))) ∧ (v5 = 0 → (jn_X8_fillOuts_54 L v5 1 (v4 + v5) (fun x9 L10 => (lp_X8_fillOuts_28 v4 kf61 n x9 L10)))))))
set_option maxRecDepth 20000 in
theorem lpt_X8_fillOuts_28 {E : Ev} {l : Launch} {n : Nat} {R : MR} (hn : 336 ≤ n) (hG : GRx R) {L0 : ML} {Q : ML → Prop} {v2 : Int32} {v3 : Int32} {v4 : Int32} {I : MI} {kf61 : ML → Prop}
    (hK61 : ∀ (L : ML), kf61 L → X E l rm_X8_fillOuts yX8_fillOuts cX8_fillOuts 8 none noX (ZM E rm_X8_fillOuts (Qv n R (V01 I L0 Q))) 61 [(0, .ref 326), (2, .int v2), (3, .int v3), (4, .int v4)] [] n I L R 0 0) : ∀ (N : Nat) (v5 : Int32) (L : ML), lp_X8_fillOuts_28 v4 kf61 N v5 L → X E l rm_X8_fillOuts yX8_fillOuts cX8_fillOuts 8 none noX (ZM E rm_X8_fillOuts (Qv n R (V01 I L0 Q))) 28 [(0, .ref 326), (2, .int v2), (3, .int v3), (4, .int v4), (5, .int v5)] [] n I L R 0 0 := by
  intro N
  induction N with
  | zero => intro v5 L h; exact False.elim h
  | succ N ih =>
    intro v5 L h
    unfold lp_X8_fillOuts_28 at h
    refine x_iload dX8_fillOuts_28 rfl ?_
    refine x_bipush (v := 9) dX8_fillOuts_30 kb_9 ?_
    refine x_icmp_ge dX8_fillOuts_32 (tgt := 61) rfl ⟨fun c3 => ?_, fun c3 => ?_⟩
    · have h := h.1 c3
      refine x_ls (ls' := [(0, .ref 326), (2, .int v2), (3, .int v3), (4, .int v4)]) [0, 1, 2, 3] rfl ?_
      exact hK61 L h
    · have h := h.2 c3
      refine x_aload_n dX8_fillOuts_35 rfl ?_
      refine x_getr (j := 327) dX8_fillOuts_36 fk_RX8_11 (kl rfl hn) sh_326 (rt_326_0 hG) ?_
      refine x_iload dX8_fillOuts_39 rfl ?_
      refine x_iload dX8_fillOuts_41 rfl ?_
      refine x_iadd dX8_fillOuts_43 ?_
      refine x_iload dX8_fillOuts_44 rfl ?_
      refine x_if_ne dX8_fillOuts_46 (tgt := 53) rfl ⟨fun c4 => ?_, fun c4 => ?_⟩
      · have h := h.1 c4
        refine x_lconst (v := 0) dX8_fillOuts_53 rfl ?_
        refine jnt_X8_fillOuts_54 hn hG (fun x7 L8 h => ?_) h
        exact ih x7 L8 h
      · have h := h.2 c4
        refine x_lconst (v := 1) dX8_fillOuts_49 rfl ?_
        refine x_goto dX8_fillOuts_50 (tgt := 54) rfl ?_
        refine jnt_X8_fillOuts_54 hn hG (fun x9 L10 h => ?_) h
        exact ih x9 L10 h
def lp_X8_fillOuts_88 (v4 : Int32) (v6 : Int32) (kf143 : ML → Prop) : Nat → Int32 → ML → Prop
  | 0, _, _ => False
  | n + 1, v7, L =>
    ((v7 ≤ 0 → kf143 L) ∧ (¬ v7 ≤ 0 → (vp_in (v4 + v7) 144 ∧ (vp_in ((v4 + v7) - 1) 144 ∧ (vp_in (v4 + v7) 144 ∧ (∀ L19, L19 = u2 L 327 (ix (v4 + v7)) (((L 327 (ix (v4 + v7))) * ((12 - v6).toInt64)) + ((L 327 (ix ((v4 + v7) - 1))) * v6.toInt64)) → (lp_X8_fillOuts_88 v4 v6 kf143 n (v7 + (-1)) L19)))))))
set_option maxRecDepth 20000 in
theorem lpt_X8_fillOuts_88 {E : Ev} {l : Launch} {n : Nat} {R : MR} (hn : 336 ≤ n) (hG : GRx R) {L0 : ML} {Q : ML → Prop} {v2 : Int32} {v3 : Int32} {v4 : Int32} {v5 : Int32} {v6 : Int32} {I : MI} {kf143 : ML → Prop}
    (hK143 : ∀ (L : ML), kf143 L → X E l rm_X8_fillOuts yX8_fillOuts cX8_fillOuts 8 none noX (ZM E rm_X8_fillOuts (Qv n R (V01 I L0 Q))) 143 [(0, .ref 326), (2, .int v2), (3, .int v3), (4, .int v4), (5, .int v5), (6, .int v6)] [] n I L R 0 0) : ∀ (N : Nat) (v7 : Int32) (L : ML), lp_X8_fillOuts_88 v4 v6 kf143 N v7 L → X E l rm_X8_fillOuts yX8_fillOuts cX8_fillOuts 8 none noX (ZM E rm_X8_fillOuts (Qv n R (V01 I L0 Q))) 88 [(0, .ref 326), (2, .int v2), (3, .int v3), (4, .int v4), (5, .int v5), (6, .int v6), (7, .int v7)] [] n I L R 0 0 := by
  intro N
  induction N with
  | zero => intro v7 L h; exact False.elim h
  | succ N ih =>
    intro v7 L h
    unfold lp_X8_fillOuts_88 at h
    refine x_iload dX8_fillOuts_88 rfl ?_
    refine x_if_le dX8_fillOuts_90 (tgt := 143) rfl ⟨fun c15 => ?_, fun c15 => ?_⟩
    · have h := h.1 c15
      refine x_ls (ls' := [(0, .ref 326), (2, .int v2), (3, .int v3), (4, .int v4), (5, .int v5), (6, .int v6)]) [0, 1, 2, 3, 4, 5] rfl ?_
      exact hK143 L h
    · have h := h.2 c15
      refine x_aload_n dX8_fillOuts_93 rfl ?_
      refine x_getr (j := 327) dX8_fillOuts_94 fk_RX8_11 (kl rfl hn) sh_326 (rt_326_0 hG) ?_
      refine x_iload dX8_fillOuts_97 rfl ?_
      refine x_iload dX8_fillOuts_99 rfl ?_
      refine x_iadd dX8_fillOuts_101 ?_
      refine x_aload_n dX8_fillOuts_102 rfl ?_
      refine x_getr (j := 327) dX8_fillOuts_103 fk_RX8_11 (kl rfl hn) sh_326 (rt_326_0 hG) ?_
      refine x_iload dX8_fillOuts_106 rfl ?_
      refine x_iload dX8_fillOuts_108 rfl ?_
      refine x_iadd dX8_fillOuts_110 ?_
      obtain ⟨b16, h⟩ := h
      refine x_laload dX8_fillOuts_111 (kl rfl hn) sh_327 b16 ?_
      refine x_bipush (v := 12) dX8_fillOuts_112 kb_12 ?_
      refine x_iload dX8_fillOuts_114 rfl ?_
      refine x_isub dX8_fillOuts_116 ?_
      refine x_i2l dX8_fillOuts_117 ?_
      refine x_lmul dX8_fillOuts_118 ?_
      refine x_aload_n dX8_fillOuts_119 rfl ?_
      refine x_getr (j := 327) dX8_fillOuts_120 fk_RX8_11 (kl rfl hn) sh_326 (rt_326_0 hG) ?_
      refine x_iload dX8_fillOuts_123 rfl ?_
      refine x_iload dX8_fillOuts_125 rfl ?_
      refine x_iadd dX8_fillOuts_127 ?_
      refine x_iconst (v := 1) dX8_fillOuts_128 ki_1 ?_
      refine x_isub dX8_fillOuts_129 ?_
      obtain ⟨b17, h⟩ := h
      refine x_laload dX8_fillOuts_130 (kl rfl hn) sh_327 b17 ?_
      refine x_iload dX8_fillOuts_131 rfl ?_
      refine x_i2l dX8_fillOuts_133 ?_
      refine x_lmul dX8_fillOuts_134 ?_
      refine x_ladd dX8_fillOuts_135 ?_
      obtain ⟨b18, h⟩ := h
      refine x_lastore dX8_fillOuts_136 (kl rfl hn) sh_327 b18 (fun L19 eL19 => ?_)
      have h := h L19 eL19
      refine x_iinc (v := v7 + (-1)) (ls' := [(7, .int (v7 + (-1))), (0, .ref 326), (2, .int v2), (3, .int v3), (4, .int v4), (5, .int v5), (6, .int v6)]) dX8_fillOuts_137 rfl (congrArg (_ + ·) ki_m1) (Nat.le_of_ble_eq_true rfl) rfl ?_
      refine x_goto dX8_fillOuts_140 (tgt := 88) rfl ?_
      refine x_ls (ls' := [(0, .ref 326), (2, .int v2), (3, .int v3), (4, .int v4), (5, .int v5), (6, .int v6), (7, .int (v7 + (-1)))]) [1, 2, 3, 4, 5, 6, 0] rfl ?_
      exact ih (v7 + (-1)) L19 h
def jn_X8_fillOuts_82 (L : ML) (v4 : Int32) (v5 : Int32) (s0 : Int32) (kj64 : Int32 → ML → Prop) : Prop :=
    (∃ N20, lp_X8_fillOuts_88 v4 s0 (fun L21 => (vp_in v4 144 ∧ (vp_in v4 144 ∧ (∀ L24, L24 = u2 L21 327 (ix v4) ((L21 327 (ix v4)) * ((12 - s0).toInt64)) → kj64 (v5 + 1) L24)))) N20 8 L)
set_option maxRecDepth 20000 in
theorem jnt_X8_fillOuts_82 {E : Ev} {l : Launch} {n : Nat} {R : MR} (hn : 336 ≤ n) (hG : GRx R) {L0 : ML} {Q : ML → Prop} {I : MI} {L : ML} {v2 : Int32} {v3 : Int32} {v4 : Int32} {v5 : Int32} {s0 : Int32} {kj64 : Int32 → ML → Prop}
    (hJ64 : ∀ (v5 : Int32) (L : ML), kj64 v5 L → X E l rm_X8_fillOuts yX8_fillOuts cX8_fillOuts 8 none noX (ZM E rm_X8_fillOuts (Qv n R (V01 I L0 Q))) 64 [(0, .ref 326), (2, .int v2), (3, .int v3), (4, .int v4), (5, .int v5)] [] n I L R 0 0) (h : jn_X8_fillOuts_82 L v4 v5 s0 kj64) : X E l rm_X8_fillOuts yX8_fillOuts cX8_fillOuts 8 none noX (ZM E rm_X8_fillOuts (Qv n R (V01 I L0 Q))) 82 [(0, .ref 326), (2, .int v2), (3, .int v3), (4, .int v4), (5, .int v5)] [.int s0] n I L R 0 0 := by
  unfold jn_X8_fillOuts_82 at h
  refine x_istore (ls' := [(6, .int s0), (0, .ref 326), (2, .int v2), (3, .int v3), (4, .int v4), (5, .int v5)]) dX8_fillOuts_82 (Nat.le_of_ble_eq_true rfl) rfl ?_
  refine x_bipush (v := 8) dX8_fillOuts_84 kb_8 ?_
  refine x_istore (ls' := [(7, .int 8), (6, .int s0), (0, .ref 326), (2, .int v2), (3, .int v3), (4, .int v4), (5, .int v5)]) dX8_fillOuts_86 (Nat.le_of_ble_eq_true rfl) rfl ?_
  refine x_ls (ls' := [(0, .ref 326), (2, .int v2), (3, .int v3), (4, .int v4), (5, .int v5), (6, .int s0), (7, .int 8)]) [2, 3, 4, 5, 6, 1, 0] rfl ?_
  obtain ⟨N20, h⟩ := h
  refine lpt_X8_fillOuts_88 hn hG (fun L21 h => ?_) N20 8 L h
  refine x_aload_n dX8_fillOuts_143 rfl ?_
  refine x_getr (j := 327) dX8_fillOuts_144 fk_RX8_11 (kl rfl hn) sh_326 (rt_326_0 hG) ?_
  refine x_iload dX8_fillOuts_147 rfl ?_
  refine x_aload_n dX8_fillOuts_149 rfl ?_
  refine x_getr (j := 327) dX8_fillOuts_150 fk_RX8_11 (kl rfl hn) sh_326 (rt_326_0 hG) ?_
  refine x_iload dX8_fillOuts_153 rfl ?_
  obtain ⟨b22, h⟩ := h
  refine x_laload dX8_fillOuts_155 (kl rfl hn) sh_327 b22 ?_
  refine x_bipush (v := 12) dX8_fillOuts_156 kb_12 ?_
  refine x_iload dX8_fillOuts_158 rfl ?_
  refine x_isub dX8_fillOuts_160 ?_
  refine x_i2l dX8_fillOuts_161 ?_
  refine x_lmul dX8_fillOuts_162 ?_
  obtain ⟨b23, h⟩ := h
  refine x_lastore dX8_fillOuts_163 (kl rfl hn) sh_327 b23 (fun L24 eL24 => ?_)
  have h := h L24 eL24
  refine x_iinc (v := v5 + 1) (ls' := [(5, .int (v5 + 1)), (0, .ref 326), (2, .int v2), (3, .int v3), (4, .int v4), (6, .int s0)]) dX8_fillOuts_164 rfl (congrArg (_ + ·) ki_1) (Nat.le_of_ble_eq_true rfl) rfl ?_
  refine x_goto dX8_fillOuts_167 (tgt := 64) rfl ?_
  refine x_ls (ls' := [(0, .ref 326), (2, .int v2), (3, .int v3), (4, .int v4), (5, .int (v5 + 1))]) [1, 2, 3, 4, 0] rfl ?_
  exact hJ64 (v5 + 1) L24 h
def lp_X8_fillOuts_64 (v2 : Int32) (v3 : Int32) (v4 : Int32) (Q : ML → Prop) : Nat → Int32 → ML → Prop
  | 0, _, _ => False
  | n + 1, v5, L =>
    ((8 ≤ v5 → Q L) ∧ (¬ 8 ≤ v5 → ((v2 ≤ v5 → (jn_X8_fillOuts_82 L v4 v5 0 (fun x25 L26 => (lp_X8_fillOuts_64 v2 v3 v4 Q n x25 L26)))) ∧ (¬ v2 ≤ v5 → (jn_X8_fillOuts_82 L v4 v5 v3 (fun x27 L28 => (lp_X8_fillOuts_64 v2 v3 v4 Q n x27 L28)))))))
set_option maxRecDepth 20000 in
theorem lpt_X8_fillOuts_64 {E : Ev} {l : Launch} {n : Nat} {R : MR} (hn : 336 ≤ n) (hG : GRx R) {L0 : ML} {Q : ML → Prop} {v2 : Int32} {v3 : Int32} {v4 : Int32} {I : MI} : ∀ (N : Nat) (v5 : Int32) (L : ML), lp_X8_fillOuts_64 v2 v3 v4 Q N v5 L → X E l rm_X8_fillOuts yX8_fillOuts cX8_fillOuts 8 none noX (ZM E rm_X8_fillOuts (Qv n R (V01 I L0 Q))) 64 [(0, .ref 326), (2, .int v2), (3, .int v3), (4, .int v4), (5, .int v5)] [] n I L R 0 0 := by
  intro N
  induction N with
  | zero => intro v5 L h; exact False.elim h
  | succ N ih =>
    intro v5 L h
    unfold lp_X8_fillOuts_64 at h
    refine x_iload dX8_fillOuts_64 rfl ?_
    refine x_bipush (v := 8) dX8_fillOuts_66 kb_8 ?_
    refine x_icmp_ge dX8_fillOuts_68 (tgt := 170) rfl ⟨fun c13 => ?_, fun c13 => ?_⟩
    · have h := h.1 c13
      exact x_return dX8_fillOuts_170 ⟨rfl, rfl, rfl, rfl, h⟩
    · have h := h.2 c13
      refine x_iload dX8_fillOuts_71 rfl ?_
      refine x_iload_n dX8_fillOuts_73 rfl ?_
      refine x_icmp_ge dX8_fillOuts_74 (tgt := 81) rfl ⟨fun c14 => ?_, fun c14 => ?_⟩
      · have h := h.1 c14
        refine x_iconst (v := 0) dX8_fillOuts_81 ki_0 ?_
        refine jnt_X8_fillOuts_82 hn hG (fun x25 L26 h => ?_) h
        exact ih x25 L26 h
      · have h := h.2 c14
        refine x_iload_n dX8_fillOuts_77 rfl ?_
        refine x_goto dX8_fillOuts_78 (tgt := 82) rfl ?_
        refine jnt_X8_fillOuts_82 hn hG (fun x27 L28 h => ?_) h
        exact ih x27 L28 h
def wp_X8_fillOuts (L : ML) (v1 : Int32) (v2 : Int32) (v3 : Int32) (Q : ML → Prop) : Prop :=
    (((v1 * 9) < 0 → Q L) ∧ (¬ (v1 * 9) < 0 → ((((v1 * 9) + 9) ≤ 144 → (∃ N11, lp_X8_fillOuts_28 (v1 * 9) (fun L12 => (∃ N29, lp_X8_fillOuts_64 v2 v3 (v1 * 9) Q N29 0 L12)) N11 0 L)) ∧ (¬ ((v1 * 9) + 9) ≤ 144 → Q L))))
set_option maxRecDepth 20000 in
theorem mt_X8_fillOuts {E : Ev} {l : Launch} {n : Nat} {R : MR} (hn : 336 ≤ n) (hG : GRx R) {I : MI} {L : ML} {v1 : Int32} {v2 : Int32} {v3 : Int32} {Q : ML → Prop} (h : wp_X8_fillOuts L v1 v2 v3 Q) : MX E l rm_X8_fillOuts yX8_fillOuts cX8_fillOuts 8 none [.ref 326, .int v1, .int v2, .int v3] n I L R (Qv n R (V01 I L Q)) := by
  refine MX_of (ls := [(0, .ref 326), (1, .int v1), (2, .int v2), (3, .int v3)]) (by decide) (Nat.le_of_ble_eq_true rfl) rfl ?_
  unfold wp_X8_fillOuts at h
  refine x_iload_n dX8_fillOuts_0 rfl ?_
  refine x_bipush (v := 9) dX8_fillOuts_1 kb_9 ?_
  refine x_imul dX8_fillOuts_3 ?_
  refine x_istore (ls' := [(4, .int (v1 * 9)), (0, .ref 326), (1, .int v1), (2, .int v2), (3, .int v3)]) dX8_fillOuts_4 (Nat.le_of_ble_eq_true rfl) rfl ?_
  refine x_iload dX8_fillOuts_6 rfl ?_
  refine x_if_lt dX8_fillOuts_8 (tgt := 24) rfl ⟨fun c1 => ?_, fun c1 => ?_⟩
  · have h := h.1 c1
    exact x_return dX8_fillOuts_24 ⟨rfl, rfl, rfl, rfl, h⟩
  · have h := h.2 c1
    refine x_iload dX8_fillOuts_11 rfl ?_
    refine x_bipush (v := 9) dX8_fillOuts_13 kb_9 ?_
    refine x_iadd dX8_fillOuts_15 ?_
    refine x_aload_n dX8_fillOuts_16 rfl ?_
    refine x_getr (j := 327) dX8_fillOuts_17 fk_RX8_11 (kl rfl hn) sh_326 (rt_326_0 hG) ?_
    refine x_alen (v := 144) dX8_fillOuts_20 (kl rfl hn) sh_327 (by decide) rfl ?_
    refine x_icmp_le dX8_fillOuts_21 (tgt := 25) rfl ⟨fun c2 => ?_, fun c2 => ?_⟩
    · have h := h.1 c2
      refine x_iconst (v := 0) dX8_fillOuts_25 ki_0 ?_
      refine x_istore (ls' := [(5, .int 0), (4, .int (v1 * 9)), (0, .ref 326), (1, .int v1), (2, .int v2), (3, .int v3)]) dX8_fillOuts_26 (Nat.le_of_ble_eq_true rfl) rfl ?_
      refine x_ls (ls' := [(0, .ref 326), (2, .int v2), (3, .int v3), (4, .int (v1 * 9)), (5, .int 0)]) [2, 4, 5, 1, 0] rfl ?_
      obtain ⟨N11, h⟩ := h
      refine lpt_X8_fillOuts_28 hn hG (fun L12 h => ?_) N11 0 L h
      refine x_iconst (v := 0) dX8_fillOuts_61 ki_0 ?_
      refine x_istore (ls' := [(5, .int 0), (0, .ref 326), (2, .int v2), (3, .int v3), (4, .int (v1 * 9))]) dX8_fillOuts_62 (Nat.le_of_ble_eq_true rfl) rfl ?_
      refine x_ls (ls' := [(0, .ref 326), (2, .int v2), (3, .int v3), (4, .int (v1 * 9)), (5, .int 0)]) [1, 2, 3, 4, 0] rfl ?_
      obtain ⟨N29, h⟩ := h
      exact lpt_X8_fillOuts_64 hn hG  N29 0 L12 h
    · have h := h.2 c2
      exact x_return dX8_fillOuts_24 ⟨rfl, rfl, rfl, rfl, h⟩
abbrev rm_X8_forget : Room := { frames := 0, cells := 0, slots := 0, locals := 0 }
def wp_X8_forget (I : MI) (Q : MI → Prop) : Prop :=
    (∀ I1, I1 = u2 I 326 10 0 → (∀ I2, I2 = u2 I1 326 11 0 → (∀ I3, I3 = u2 I2 326 12 0 → Q I3)))
set_option maxRecDepth 20000 in
theorem mt_X8_forget {E : Ev} {l : Launch} {n : Nat} {R : MR} (hn : 336 ≤ n) (hG : GRx R) {I : MI} {L : ML} {Q : MI → Prop} (h : wp_X8_forget I Q) : MX E l rm_X8_forget yX8_forget cX8_forget 1 none [.ref 326] n I L R (Qv n R (V10 I L Q)) := by
  refine MX_of (ls := [(0, .ref 326)]) (by decide) (Nat.le_of_ble_eq_true rfl) rfl ?_
  unfold wp_X8_forget at h
  refine x_aload_n dX8_forget_0 rfl ?_
  refine x_iconst (v := 0) dX8_forget_1 ki_0 ?_
  refine x_puti dX8_forget_2 fk_RX8_44 fw_6_10 rfl rfl (kl rfl hn) sh_326 (fun I1 eI1 => ?_)
  have h := h I1 eI1
  refine x_aload_n dX8_forget_5 rfl ?_
  refine x_iconst (v := 0) dX8_forget_6 ki_0 ?_
  refine x_puti dX8_forget_7 fk_RX8_48 fw_6_11 rfl rfl (kl rfl hn) sh_326 (fun I2 eI2 => ?_)
  have h := h I2 eI2
  refine x_aload_n dX8_forget_10 rfl ?_
  refine x_iconst (v := 0) dX8_forget_11 ki_0 ?_
  refine x_puti dX8_forget_12 fk_RX8_51 fw_6_12 rfl rfl (kl rfl hn) sh_326 (fun I3 eI3 => ?_)
  have h := h I3 eI3
  exact x_return dX8_forget_15 ⟨rfl, rfl, rfl, rfl, h⟩
abbrev rm_X8_lackOf : Room := { frames := 0, cells := 0, slots := 0, locals := 0 }
def wp_X8_lackOf (L : ML) (v1 : Int32) (v2 : Int32) (Q : Int64 → Prop) : Prop :=
    ((v2 < 0 → Q 0) ∧ (¬ v2 < 0 → ((10 ≤ v2 → Q 0) ∧ (¬ 10 ≤ v2 → ((((v1 * 10) + v2) < 0 → Q 0) ∧ (¬ ((v1 * 10) + v2) < 0 → ((160 ≤ ((v1 * 10) + v2) → Q 0) ∧ (¬ 160 ≤ ((v1 * 10) + v2) → (vp_in ((v1 * 10) + v2) 160 ∧ Q (L 328 (ix ((v1 * 10) + v2))))))))))))
set_option maxRecDepth 20000 in
theorem mt_X8_lackOf {E : Ev} {l : Launch} {n : Nat} {R : MR} (hn : 336 ≤ n) (hG : GRx R) {I : MI} {L : ML} {v1 : Int32} {v2 : Int32} {Q : Int64 → Prop} (h : wp_X8_lackOf L v1 v2 Q) : MX E l rm_X8_lackOf yX8_lackOf cX8_lackOf 4 (some .long) [.ref 326, .int v1, .int v2] n I L R (Ql n R (P00 I L Q)) := by
  refine MX_of (ls := [(0, .ref 326), (1, .int v1), (2, .int v2)]) (by decide) (Nat.le_of_ble_eq_true rfl) rfl ?_
  unfold wp_X8_lackOf at h
  refine x_iload_n dX8_lackOf_0 rfl ?_
  refine x_bipush (v := 10) dX8_lackOf_1 kb_10 ?_
  refine x_imul dX8_lackOf_3 ?_
  refine x_iload_n dX8_lackOf_4 rfl ?_
  refine x_iadd dX8_lackOf_5 ?_
  refine x_istore_n (ls' := [(3, .int ((v1 * 10) + v2)), (0, .ref 326), (1, .int v1), (2, .int v2)]) dX8_lackOf_6 (Nat.le_of_ble_eq_true rfl) rfl ?_
  refine x_iload_n dX8_lackOf_7 rfl ?_
  refine x_if_lt dX8_lackOf_8 (tgt := 39) rfl ⟨fun c1 => ?_, fun c1 => ?_⟩
  · have h := h.1 c1
    refine x_lconst (v := 0) dX8_lackOf_39 rfl ?_
    exact x_lreturn dX8_lackOf_40 ⟨_, rfl, rfl, rfl, rfl, rfl, h⟩
  · have h := h.2 c1
    refine x_iload_n dX8_lackOf_11 rfl ?_
    refine x_bipush (v := 10) dX8_lackOf_12 kb_10 ?_
    refine x_icmp_ge dX8_lackOf_14 (tgt := 39) rfl ⟨fun c2 => ?_, fun c2 => ?_⟩
    · have h := h.1 c2
      refine x_lconst (v := 0) dX8_lackOf_39 rfl ?_
      exact x_lreturn dX8_lackOf_40 ⟨_, rfl, rfl, rfl, rfl, rfl, h⟩
    · have h := h.2 c2
      refine x_iload_n dX8_lackOf_17 rfl ?_
      refine x_if_lt dX8_lackOf_18 (tgt := 39) rfl ⟨fun c3 => ?_, fun c3 => ?_⟩
      · have h := h.1 c3
        refine x_lconst (v := 0) dX8_lackOf_39 rfl ?_
        exact x_lreturn dX8_lackOf_40 ⟨_, rfl, rfl, rfl, rfl, rfl, h⟩
      · have h := h.2 c3
        refine x_iload_n dX8_lackOf_21 rfl ?_
        refine x_aload_n dX8_lackOf_22 rfl ?_
        refine x_getr (j := 328) dX8_lackOf_23 fk_RX8_15 (kl rfl hn) sh_326 (rt_326_1 hG) ?_
        refine x_alen (v := 160) dX8_lackOf_26 (kl rfl hn) sh_328 (by decide) rfl ?_
        refine x_icmp_ge dX8_lackOf_27 (tgt := 39) rfl ⟨fun c4 => ?_, fun c4 => ?_⟩
        · have h := h.1 c4
          refine x_lconst (v := 0) dX8_lackOf_39 rfl ?_
          exact x_lreturn dX8_lackOf_40 ⟨_, rfl, rfl, rfl, rfl, rfl, h⟩
        · have h := h.2 c4
          refine x_aload_n dX8_lackOf_30 rfl ?_
          refine x_getr (j := 328) dX8_lackOf_31 fk_RX8_15 (kl rfl hn) sh_326 (rt_326_1 hG) ?_
          refine x_iload_n dX8_lackOf_34 rfl ?_
          obtain ⟨b5, h⟩ := h
          refine x_laload dX8_lackOf_35 (kl rfl hn) sh_328 b5 ?_
          refine x_goto dX8_lackOf_36 (tgt := 40) rfl ?_
          exact x_lreturn dX8_lackOf_40 ⟨_, rfl, rfl, rfl, rfl, rfl, h⟩
abbrev rm_X8_gainOf : Room := { frames := 1, cells := 0, slots := 0, locals := 23 }
def wp_X8_gainOf (I : MI) (L : ML) (v1 : Int32) (Q : Int64 → Prop) : Prop :=
    (vp_in (v1 &&& 15) 16 ∧ ((9 ≤ (I 332 (ix (v1 &&& 15))) → Q 0) ∧ (¬ 9 ≤ (I 332 (ix (v1 &&& 15))) → (wp_X8_lackOf L v1 (I 332 (ix (v1 &&& 15))) (fun x3 => ((wp_X8_lackOf L v1 ((I 332 (ix (v1 &&& 15))) + 1) (fun x4 => (Q (x3 - x4))))))))))
set_option maxRecDepth 20000 in
theorem mt_X8_gainOf {E : Ev} {l : Launch} {n : Nat} {R : MR} (hn : 336 ≤ n) (hG : GRx R) {I : MI} {L : ML} {v1 : Int32} {Q : Int64 → Prop} (h : wp_X8_gainOf I L v1 Q) : MX E l rm_X8_gainOf yX8_gainOf cX8_gainOf 3 (some .long) [.ref 326, .int v1] n I L R (Ql n R (P00 I L Q)) := by
  refine MX_of (ls := [(0, .ref 326), (1, .int v1)]) (by decide) (Nat.le_of_ble_eq_true rfl) rfl ?_
  unfold wp_X8_gainOf at h
  refine x_aload_n dX8_gainOf_0 rfl ?_
  refine x_getr (j := 332) dX8_gainOf_1 fk_RX8_32 (kl rfl hn) sh_326 (rt_326_6 hG) ?_
  refine x_iload_n dX8_gainOf_4 rfl ?_
  refine x_bipush (v := 15) dX8_gainOf_5 kb_15 ?_
  refine x_iand dX8_gainOf_7 ?_
  obtain ⟨b1, h⟩ := h
  refine x_iaload dX8_gainOf_8 (kl rfl hn) sh_332 b1 ?_
  refine x_istore_n (ls' := [(2, .int (I 332 (ix (v1 &&& 15)))), (0, .ref 326), (1, .int v1)]) dX8_gainOf_9 (Nat.le_of_ble_eq_true rfl) rfl ?_
  refine x_iload_n dX8_gainOf_10 rfl ?_
  refine x_bipush (v := 9) dX8_gainOf_11 kb_9 ?_
  refine x_icmp_ge dX8_gainOf_13 (tgt := 34) rfl ⟨fun c2 => ?_, fun c2 => ?_⟩
  · have h := h.1 c2
    refine x_lconst (v := 0) dX8_gainOf_34 rfl ?_
    exact x_lreturn dX8_gainOf_35 ⟨_, rfl, rfl, rfl, rfl, rfl, h⟩
  · have h := h.2 c2
    refine x_aload_n dX8_gainOf_16 rfl ?_
    refine x_iload_n dX8_gainOf_17 rfl ?_
    refine x_iload_n dX8_gainOf_18 rfl ?_
    refine x_cVl00 [.int v1, .int (I 332 (ix (v1 &&& 15)))] (mt_X8_lackOf hn hG h) dX8_gainOf_19 lk_RX8_84 (kl rfl hn) sh_326 rfl rfl (Nat.le_of_ble_eq_true rfl) (Rf_of rfl) (fun x3 h => ?_)
    refine x_aload_n dX8_gainOf_22 rfl ?_
    refine x_iload_n dX8_gainOf_23 rfl ?_
    refine x_iload_n dX8_gainOf_24 rfl ?_
    refine x_iconst (v := 1) dX8_gainOf_25 ki_1 ?_
    refine x_iadd dX8_gainOf_26 ?_
    refine x_cVl00 [.int v1, .int ((I 332 (ix (v1 &&& 15))) + 1)] (mt_X8_lackOf hn hG h) dX8_gainOf_27 lk_RX8_84 (kl rfl hn) sh_326 rfl rfl (Nat.le_of_ble_eq_true rfl) (Rf_of rfl) (fun x4 h => ?_)
    refine x_lsub dX8_gainOf_30 ?_
    refine x_goto dX8_gainOf_31 (tgt := 35) rfl ?_
    exact x_lreturn dX8_gainOf_35 ⟨_, rfl, rfl, rfl, rfl, rfl, h⟩
abbrev rm_X8_lackBySpares : Room := { frames := 1, cells := 0, slots := 0, locals := 23 }
def jn_X8_lackBySpares_55 (v3 : Int64) (v6 : Int32) (kj17 : Int64 → Int32 → Prop) : Prop :=
    kj17 v3 (v6 + 1)
set_option maxRecDepth 20000 in
theorem jnt_X8_lackBySpares_55 {E : Ev} {l : Launch} {n : Nat} {R : MR} {p1 a2 N2 : Nat} (hn : 336 ≤ n) (hG : GRx R) (hp1 : isPlan p1) (ha2 : a2 < n ∧ sh a2 = .inr (0, N2)) {Q : Int64 → Prop} {I : MI} {L : ML} {v3 : Int64} {v5 : Int32} {v6 : Int32} {kj17 : Int64 → Int32 → Prop}
    (hJ17 : ∀ (v3 : Int64) (v6 : Int32), kj17 v3 v6 → X E l rm_X8_lackBySpares yX8_lackBySpares cX8_lackBySpares 8 (some .long) noX (ZM E rm_X8_lackBySpares (Ql n R (P00 I L Q))) 17 [(0, .ref 326), (1, .ref p1), (2, .ref a2), (3, .long v3), (5, .int v5), (6, .int v6)] [] n I L R 0 0) (h : jn_X8_lackBySpares_55 v3 v6 kj17) : X E l rm_X8_lackBySpares yX8_lackBySpares cX8_lackBySpares 8 (some .long) noX (ZM E rm_X8_lackBySpares (Ql n R (P00 I L Q))) 55 [(0, .ref 326), (1, .ref p1), (2, .ref a2), (3, .long v3), (5, .int v5), (6, .int v6)] [] n I L R 0 0 := by
  unfold jn_X8_lackBySpares_55 at h
  refine x_iinc (v := v6 + 1) (ls' := [(6, .int (v6 + 1)), (0, .ref 326), (1, .ref p1), (2, .ref a2), (3, .long v3), (5, .int v5)]) dX8_lackBySpares_55 rfl (congrArg (_ + ·) ki_1) (Nat.le_of_ble_eq_true rfl) rfl ?_
  refine x_goto dX8_lackBySpares_58 (tgt := 17) rfl ?_
  refine x_ls (ls' := [(0, .ref 326), (1, .ref p1), (2, .ref a2), (3, .long v3), (5, .int v5), (6, .int (v6 + 1))]) [1, 2, 3, 4, 5, 0] rfl ?_
  exact hJ17 v3 (v6 + 1) h
def lp_X8_lackBySpares_17 (p1 a2 N2 : Nat) (I : MI) (L : ML) (v5 : Int32) (kf61 : Int64 → Prop) : Nat → Int64 → Int32 → Prop
  | 0, _, _ => False
  | n + 1, v3, v6 =>
    (((I p1 0) ≤ v6 → kf61 v3) ∧ (¬ (I p1 0) ≤ v6 → (wp_X9_placeOf v5 v6 (fun x3 => ((((Int32.ofNat N2) ≤ x3 → (jn_X8_lackBySpares_55 v3 v6 (fun x5 x6 => (lp_X8_lackBySpares_17 p1 a2 N2 I L v5 kf61 n x5 x6)))) ∧ (¬ (Int32.ofNat N2) ≤ x3 → (vp_in x3 N2 ∧ (wp_X8_lackOf L x3 (I a2 (ix x3)) (fun x8 => ((jn_X8_lackBySpares_55 (v3 + x8) v6 (fun x9 x10 => (lp_X8_lackBySpares_17 p1 a2 N2 I L v5 kf61 n x9 x10))))))))))))))
set_option maxRecDepth 20000 in
theorem lpt_X8_lackBySpares_17 {E : Ev} {l : Launch} {n : Nat} {R : MR} {p1 a2 N2 : Nat} (hn : 336 ≤ n) (hG : GRx R) (hp1 : isPlan p1) (ha2 : a2 < n ∧ sh a2 = .inr (0, N2)) {Q : Int64 → Prop} {v5 : Int32} {I : MI} {L : ML} {kf61 : Int64 → Prop}
    (hK61 : ∀ (v3 : Int64), kf61 v3 → X E l rm_X8_lackBySpares yX8_lackBySpares cX8_lackBySpares 8 (some .long) noX (ZM E rm_X8_lackBySpares (Ql n R (P00 I L Q))) 61 [(0, .ref 326), (1, .ref p1), (2, .ref a2), (3, .long v3), (5, .int v5)] [] n I L R 0 0) : ∀ (N : Nat) (v3 : Int64) (v6 : Int32), lp_X8_lackBySpares_17 p1 a2 N2 I L v5 kf61 N v3 v6 → X E l rm_X8_lackBySpares yX8_lackBySpares cX8_lackBySpares 8 (some .long) noX (ZM E rm_X8_lackBySpares (Ql n R (P00 I L Q))) 17 [(0, .ref 326), (1, .ref p1), (2, .ref a2), (3, .long v3), (5, .int v5), (6, .int v6)] [] n I L R 0 0 := by
  intro N
  induction N with
  | zero => intro v3 v6 h; exact False.elim h
  | succ N ih =>
    intro v3 v6 h
    unfold lp_X8_lackBySpares_17 at h
    refine x_iload dX8_lackBySpares_17 rfl ?_
    refine x_aload_n dX8_lackBySpares_19 rfl ?_
    refine x_geti dX8_lackBySpares_20 fk_RX8_77 (Pn_k hp1 hn 0 rfl) (Pn_s0 hp1) ?_
    refine x_icmp_ge dX8_lackBySpares_23 (tgt := 61) rfl ⟨fun c2 => ?_, fun c2 => ?_⟩
    · have h := h.1 c2
      refine x_ls (ls' := [(0, .ref 326), (1, .ref p1), (2, .ref a2), (3, .long v3), (5, .int v5)]) [0, 1, 2, 3, 4] rfl ?_
      exact hK61 v3 h
    · have h := h.2 c2
      refine x_iload dX8_lackBySpares_26 rfl ?_
      refine x_iload dX8_lackBySpares_28 rfl ?_
      refine x_cNi00 [.int v5, .int v6] (mt_X9_placeOf hn hG h) dX8_lackBySpares_30 lk_RX8_80 rfl rfl (Nat.le_of_ble_eq_true rfl) (Rf_of rfl) (fun x3 h => ?_)
      refine x_istore (ls' := [(7, .int x3), (0, .ref 326), (1, .ref p1), (2, .ref a2), (3, .long v3), (5, .int v5), (6, .int v6)]) dX8_lackBySpares_33 (Nat.le_of_ble_eq_true rfl) rfl ?_
      refine x_iload dX8_lackBySpares_35 rfl ?_
      refine x_aload_n dX8_lackBySpares_37 rfl ?_
      refine x_alen (v := Int32.ofNat N2) dX8_lackBySpares_38 ha2.1 ha2.2 (by decide) rfl ?_
      refine x_icmp_ge dX8_lackBySpares_39 (tgt := 55) rfl ⟨fun c4 => ?_, fun c4 => ?_⟩
      · have h := h.1 c4
        refine x_ls (ls' := [(0, .ref 326), (1, .ref p1), (2, .ref a2), (3, .long v3), (5, .int v5), (6, .int v6)]) [1, 2, 3, 4, 5, 6] rfl ?_
        refine jnt_X8_lackBySpares_55 hn hG hp1 ha2 (fun x5 x6 h => ?_) h
        exact ih x5 x6 h
      · have h := h.2 c4
        refine x_lload_n dX8_lackBySpares_42 rfl ?_
        refine x_aload_n dX8_lackBySpares_43 rfl ?_
        refine x_iload dX8_lackBySpares_44 rfl ?_
        refine x_aload_n dX8_lackBySpares_46 rfl ?_
        refine x_iload dX8_lackBySpares_47 rfl ?_
        obtain ⟨b7, h⟩ := h
        refine x_iaload dX8_lackBySpares_49 ha2.1 ha2.2 b7 ?_
        refine x_cVl00 [.int x3, .int (I a2 (ix x3))] (mt_X8_lackOf hn hG h) dX8_lackBySpares_50 lk_RX8_84 (kl rfl hn) sh_326 rfl rfl (Nat.le_of_ble_eq_true rfl) (Rf_of rfl) (fun x8 h => ?_)
        refine x_ladd dX8_lackBySpares_53 ?_
        refine x_lstore_n (ls' := [(3, .long (v3 + x8)), (7, .int x3), (0, .ref 326), (1, .ref p1), (2, .ref a2), (5, .int v5), (6, .int v6)]) dX8_lackBySpares_54 (Nat.le_of_ble_eq_true rfl) rfl ?_
        refine x_ls (ls' := [(0, .ref 326), (1, .ref p1), (2, .ref a2), (3, .long (v3 + x8)), (5, .int v5), (6, .int v6)]) [2, 3, 4, 0, 5, 6] rfl ?_
        refine jnt_X8_lackBySpares_55 hn hG hp1 ha2 (fun x9 x10 h => ?_) h
        exact ih x9 x10 h
def lp_X8_lackBySpares_5 (p1 a2 N2 : Nat) (I : MI) (L : ML) (Q : Int64 → Prop) : Nat → Int64 → Int32 → Prop
  | 0, _, _ => False
  | n + 1, v3, v5 =>
    (((I p1 1) ≤ v5 → Q v3) ∧ (¬ (I p1 1) ≤ v5 → (∃ N11, lp_X8_lackBySpares_17 p1 a2 N2 I L v5 (fun x12 => (lp_X8_lackBySpares_5 p1 a2 N2 I L Q n x12 (v5 + 1))) N11 v3 0)))
set_option maxRecDepth 20000 in
theorem lpt_X8_lackBySpares_5 {E : Ev} {l : Launch} {n : Nat} {R : MR} {p1 a2 N2 : Nat} (hn : 336 ≤ n) (hG : GRx R) (hp1 : isPlan p1) (ha2 : a2 < n ∧ sh a2 = .inr (0, N2)) {Q : Int64 → Prop} {I : MI} {L : ML} : ∀ (N : Nat) (v3 : Int64) (v5 : Int32), lp_X8_lackBySpares_5 p1 a2 N2 I L Q N v3 v5 → X E l rm_X8_lackBySpares yX8_lackBySpares cX8_lackBySpares 8 (some .long) noX (ZM E rm_X8_lackBySpares (Ql n R (P00 I L Q))) 5 [(0, .ref 326), (1, .ref p1), (2, .ref a2), (3, .long v3), (5, .int v5)] [] n I L R 0 0 := by
  intro N
  induction N with
  | zero => intro v3 v5 h; exact False.elim h
  | succ N ih =>
    intro v3 v5 h
    unfold lp_X8_lackBySpares_5 at h
    refine x_iload dX8_lackBySpares_5 rfl ?_
    refine x_aload_n dX8_lackBySpares_7 rfl ?_
    refine x_geti dX8_lackBySpares_8 fk_RX8_74 (Pn_k hp1 hn 0 rfl) (Pn_s0 hp1) ?_
    refine x_icmp_ge dX8_lackBySpares_11 (tgt := 67) rfl ⟨fun c1 => ?_, fun c1 => ?_⟩
    · have h := h.1 c1
      refine x_lload_n dX8_lackBySpares_67 rfl ?_
      exact x_lreturn dX8_lackBySpares_68 ⟨_, rfl, rfl, rfl, rfl, rfl, h⟩
    · have h := h.2 c1
      refine x_iconst (v := 0) dX8_lackBySpares_14 ki_0 ?_
      refine x_istore (ls' := [(6, .int 0), (0, .ref 326), (1, .ref p1), (2, .ref a2), (3, .long v3), (5, .int v5)]) dX8_lackBySpares_15 (Nat.le_of_ble_eq_true rfl) rfl ?_
      refine x_ls (ls' := [(0, .ref 326), (1, .ref p1), (2, .ref a2), (3, .long v3), (5, .int v5), (6, .int 0)]) [1, 2, 3, 4, 5, 0] rfl ?_
      obtain ⟨N11, h⟩ := h
      refine lpt_X8_lackBySpares_17 hn hG hp1 ha2 (fun x12 h => ?_) N11 v3 0 h
      refine x_iinc (v := v5 + 1) (ls' := [(5, .int (v5 + 1)), (0, .ref 326), (1, .ref p1), (2, .ref a2), (3, .long x12)]) dX8_lackBySpares_61 rfl (congrArg (_ + ·) ki_1) (Nat.le_of_ble_eq_true rfl) rfl ?_
      refine x_goto dX8_lackBySpares_64 (tgt := 5) rfl ?_
      refine x_ls (ls' := [(0, .ref 326), (1, .ref p1), (2, .ref a2), (3, .long x12), (5, .int (v5 + 1))]) [1, 2, 3, 4, 0] rfl ?_
      exact ih x12 (v5 + 1) h
def wp_X8_lackBySpares (p1 a2 N2 : Nat) (I : MI) (L : ML) (Q : Int64 → Prop) : Prop :=
    (∃ N13, lp_X8_lackBySpares_5 p1 a2 N2 I L Q N13 0 0)
set_option maxRecDepth 20000 in
theorem mt_X8_lackBySpares {E : Ev} {l : Launch} {n : Nat} {R : MR} {p1 a2 N2 : Nat} (hn : 336 ≤ n) (hG : GRx R) (hp1 : isPlan p1) (ha2 : a2 < n ∧ sh a2 = .inr (0, N2)) {I : MI} {L : ML} {Q : Int64 → Prop} (h : wp_X8_lackBySpares p1 a2 N2 I L Q) : MX E l rm_X8_lackBySpares yX8_lackBySpares cX8_lackBySpares 8 (some .long) [.ref 326, .ref p1, .ref a2] n I L R (Ql n R (P00 I L Q)) := by
  refine MX_of (ls := [(0, .ref 326), (1, .ref p1), (2, .ref a2)]) (by decide) (Nat.le_of_ble_eq_true rfl) rfl ?_
  unfold wp_X8_lackBySpares at h
  refine x_lconst (v := 0) dX8_lackBySpares_0 rfl ?_
  refine x_lstore_n (ls' := [(3, .long 0), (0, .ref 326), (1, .ref p1), (2, .ref a2)]) dX8_lackBySpares_1 (Nat.le_of_ble_eq_true rfl) rfl ?_
  refine x_iconst (v := 0) dX8_lackBySpares_2 ki_0 ?_
  refine x_istore (ls' := [(5, .int 0), (3, .long 0), (0, .ref 326), (1, .ref p1), (2, .ref a2)]) dX8_lackBySpares_3 (Nat.le_of_ble_eq_true rfl) rfl ?_
  refine x_ls (ls' := [(0, .ref 326), (1, .ref p1), (2, .ref a2), (3, .long 0), (5, .int 0)]) [2, 3, 4, 1, 0] rfl ?_
  obtain ⟨N13, h⟩ := h
  exact lpt_X8_lackBySpares_5 hn hG hp1 ha2  N13 0 0 h
abbrev rm_X8_learnLack : Room := { frames := 2, cells := 0, slots := 0, locals := 49 }
def lp_X8_learnLack_10 (p1 : Nat) (I : MI) (Q : MI → ML → Prop) : Nat → Int32 → ML → Prop
  | 0, _, _ => False
  | n + 1, v2, L =>
    ((16 ≤ v2 → (∀ I3, I3 = u2 I 326 10 1 → Q I3 L)) ∧ (¬ 16 ≤ v2 → (vp_in v2 16 ∧ (vp_in v2 16 ∧ (wp_X8_fillOuts L v2 (I (p1 + 6) (ix v2)) (I (p1 + 7) (ix v2)) (fun L6 => ((wp_X8_fillLack L6 v2 (fun L7 => ((lp_X8_learnLack_10 p1 I Q n (v2 + 1) L7)))))))))))
set_option maxRecDepth 20000 in
theorem lpt_X8_learnLack_10 {E : Ev} {l : Launch} {n : Nat} {R : MR} {p1 : Nat} (hn : 336 ≤ n) (hG : GRx R) (hp1 : isPlan p1) {I0 : MI} {L0 : ML} {Q : MI → ML → Prop} {I : MI} : ∀ (N : Nat) (v2 : Int32) (L : ML), lp_X8_learnLack_10 p1 I Q N v2 L → X E l rm_X8_learnLack yX8_learnLack cX8_learnLack 3 none noX (ZM E rm_X8_learnLack (Qv n R (V11 I0 L0 Q))) 10 [(0, .ref 326), (1, .ref p1), (2, .int v2)] [] n I L R 0 0 := by
  intro N
  induction N with
  | zero => intro v2 L h; exact False.elim h
  | succ N ih =>
    intro v2 L h
    unfold lp_X8_learnLack_10 at h
    refine x_iload_n dX8_learnLack_10 rfl ?_
    refine x_bipush (v := 16) dX8_learnLack_11 kb_16 ?_
    refine x_icmp_ge dX8_learnLack_13 (tgt := 44) rfl ⟨fun c2 => ?_, fun c2 => ?_⟩
    · have h := h.1 c2
      refine x_aload_n dX8_learnLack_44 rfl ?_
      refine x_iconst (v := 1) dX8_learnLack_45 ki_1 ?_
      refine x_puti dX8_learnLack_46 fk_RX8_44 fw_6_10 rfl rfl (kl rfl hn) sh_326 (fun I3 eI3 => ?_)
      have h := h I3 eI3
      exact x_return dX8_learnLack_49 ⟨rfl, rfl, rfl, h⟩
    · have h := h.2 c2
      refine x_aload_n dX8_learnLack_16 rfl ?_
      refine x_iload_n dX8_learnLack_17 rfl ?_
      refine x_aload_n dX8_learnLack_18 rfl ?_
      refine x_getr (j := p1 + 6) dX8_learnLack_19 fk_RX8_54 (Pn_k hp1 hn 0 rfl) (Pn_s0 hp1) (Pn_r10 hG hp1) ?_
      refine x_iload_n dX8_learnLack_22 rfl ?_
      obtain ⟨b4, h⟩ := h
      refine x_iaload dX8_learnLack_23 (Pn_k hp1 hn 6 rfl) (Pn_s6 hp1) b4 ?_
      refine x_aload_n dX8_learnLack_24 rfl ?_
      refine x_getr (j := p1 + 7) dX8_learnLack_25 fk_RX8_59 (Pn_k hp1 hn 0 rfl) (Pn_s0 hp1) (Pn_r11 hG hp1) ?_
      refine x_iload_n dX8_learnLack_28 rfl ?_
      obtain ⟨b5, h⟩ := h
      refine x_iaload dX8_learnLack_29 (Pn_k hp1 hn 7 rfl) (Pn_s7 hp1) b5 ?_
      refine x_cVv01 [.int v2, .int (I (p1 + 6) (ix v2)), .int (I (p1 + 7) (ix v2))] (mt_X8_fillOuts hn hG h) dX8_learnLack_30 lk_RX8_62 (kl rfl hn) sh_326 rfl rfl (Nat.le_of_ble_eq_true rfl) (Rf_of rfl) (fun L6 h => ?_)
      refine x_aload_n dX8_learnLack_33 rfl ?_
      refine x_iload_n dX8_learnLack_34 rfl ?_
      refine x_cVv01 [.int v2] (mt_X8_fillLack hn hG h) dX8_learnLack_35 lk_RX8_66 (kl rfl hn) sh_326 rfl rfl (Nat.le_of_ble_eq_true rfl) (Rf_of rfl) (fun L7 h => ?_)
      refine x_iinc (v := v2 + 1) (ls' := [(2, .int (v2 + 1)), (0, .ref 326), (1, .ref p1)]) dX8_learnLack_38 rfl (congrArg (_ + ·) ki_1) (Nat.le_of_ble_eq_true rfl) rfl ?_
      refine x_goto dX8_learnLack_41 (tgt := 10) rfl ?_
      refine x_ls (ls' := [(0, .ref 326), (1, .ref p1), (2, .int (v2 + 1))]) [1, 2, 0] rfl ?_
      exact ih (v2 + 1) L7 h
def wp_X8_learnLack (p1 : Nat) (I : MI) (L : ML) (Q : MI → ML → Prop) : Prop :=
    (((I 326 10) = 0 → (∃ N8, lp_X8_learnLack_10 p1 I Q N8 0 L)) ∧ (¬ (I 326 10) = 0 → Q I L))
set_option maxRecDepth 20000 in
theorem mt_X8_learnLack {E : Ev} {l : Launch} {n : Nat} {R : MR} {p1 : Nat} (hn : 336 ≤ n) (hG : GRx R) (hp1 : isPlan p1) {I : MI} {L : ML} {Q : MI → ML → Prop} (h : wp_X8_learnLack p1 I L Q) : MX E l rm_X8_learnLack yX8_learnLack cX8_learnLack 3 none [.ref 326, .ref p1] n I L R (Qv n R (V11 I L Q)) := by
  refine MX_of (ls := [(0, .ref 326), (1, .ref p1)]) (by decide) (Nat.le_of_ble_eq_true rfl) rfl ?_
  unfold wp_X8_learnLack at h
  refine x_aload_n dX8_learnLack_0 rfl ?_
  refine x_geti dX8_learnLack_1 fk_RX8_44 (kl rfl hn) sh_326 ?_
  refine x_if_eq dX8_learnLack_4 (tgt := 8) rfl ⟨fun c1 => ?_, fun c1 => ?_⟩
  · have h := h.1 c1
    refine x_iconst (v := 0) dX8_learnLack_8 ki_0 ?_
    refine x_istore_n (ls' := [(2, .int 0), (0, .ref 326), (1, .ref p1)]) dX8_learnLack_9 (Nat.le_of_ble_eq_true rfl) rfl ?_
    refine x_ls (ls' := [(0, .ref 326), (1, .ref p1), (2, .int 0)]) [1, 2, 0] rfl ?_
    obtain ⟨N8, h⟩ := h
    exact lpt_X8_learnLack_10 hn hG hp1  N8 0 L h
  · have h := h.2 c1
    exact x_return dX8_learnLack_7 ⟨rfl, rfl, rfl, h⟩
abbrev rm_X8_pickSpares : Room := { frames := 1, cells := 0, slots := 0, locals := 23 }
def jn_X8_pickSpares_178 (I : MI) (L : ML) (v8 : Int32) (kj38 : Int32 → MI → ML → Prop) : Prop :=
    kj38 (v8 + 1) I L
set_option maxRecDepth 20000 in
theorem jnt_X8_pickSpares_178 {E : Ev} {l : Launch} {n : Nat} {R : MR} {p1 : Nat} (hn : 336 ≤ n) (hG : GRx R) (hp1 : isPlan p1) {I0 : MI} {L0 : ML} {Q : MI → ML → Prop} {I : MI} {L : ML} {v2 : Int32} {v3 : Int32} {v5 : Int32} {v6 : Int32} {v7 : Int32} {v8 : Int32} {kj38 : Int32 → MI → ML → Prop}
    (hJ38 : ∀ (v8 : Int32) (I : MI) (L : ML), kj38 v8 I L → X E l rm_X8_pickSpares yX8_pickSpares cX8_pickSpares 13 none noX (ZM E rm_X8_pickSpares (Qv n R (V11 I0 L0 Q))) 38 [(0, .ref 326), (1, .ref p1), (2, .int v2), (3, .int v3), (5, .int v5), (6, .int v6), (7, .int v7), (8, .int v8)] [] n I L R 0 0) (h : jn_X8_pickSpares_178 I L v8 kj38) : X E l rm_X8_pickSpares yX8_pickSpares cX8_pickSpares 13 none noX (ZM E rm_X8_pickSpares (Qv n R (V11 I0 L0 Q))) 178 [(0, .ref 326), (1, .ref p1), (2, .int v2), (3, .int v3), (5, .int v5), (6, .int v6), (7, .int v7), (8, .int v8)] [] n I L R 0 0 := by
  unfold jn_X8_pickSpares_178 at h
  refine x_iinc (v := v8 + 1) (ls' := [(8, .int (v8 + 1)), (0, .ref 326), (1, .ref p1), (2, .int v2), (3, .int v3), (5, .int v5), (6, .int v6), (7, .int v7)]) dX8_pickSpares_178 rfl (congrArg (_ + ·) ki_1) (Nat.le_of_ble_eq_true rfl) rfl ?_
  refine x_goto dX8_pickSpares_181 (tgt := 38) rfl ?_
  refine x_ls (ls' := [(0, .ref 326), (1, .ref p1), (2, .int v2), (3, .int v3), (5, .int v5), (6, .int v6), (7, .int v7), (8, .int (v8 + 1))]) [1, 2, 3, 4, 5, 6, 7, 0] rfl ?_
  exact hJ38 (v8 + 1) I L h
def jn_X8_pickSpares_151 (I : MI) (L : ML) (v7 : Int32) (v8 : Int32) (v10 : Int64) (v12 : Int32) (kj38 : Int32 → MI → ML → Prop) : Prop :=
    (vp_in v7 1000 ∧ (∀ L11, L11 = u2 L 333 (ix v7) v10 → (vp_in v7 1000 ∧ (∀ I13, I13 = u2 I 334 (ix v7) v12 → (vp_in v7 900 ∧ (∀ I15, I15 = u2 I13 335 (ix v7) v8 → (jn_X8_pickSpares_178 I15 L11 v8 (fun x16 I17 L18 => kj38 x16 I17 L18))))))))
set_option maxRecDepth 20000 in
theorem jnt_X8_pickSpares_151 {E : Ev} {l : Launch} {n : Nat} {R : MR} {p1 : Nat} (hn : 336 ≤ n) (hG : GRx R) (hp1 : isPlan p1) {I0 : MI} {L0 : ML} {Q : MI → ML → Prop} {I : MI} {L : ML} {v2 : Int32} {v3 : Int32} {v5 : Int32} {v6 : Int32} {v7 : Int32} {v8 : Int32} {v10 : Int64} {v12 : Int32} {kj38 : Int32 → MI → ML → Prop}
    (hJ38 : ∀ (v8 : Int32) (I : MI) (L : ML), kj38 v8 I L → X E l rm_X8_pickSpares yX8_pickSpares cX8_pickSpares 13 none noX (ZM E rm_X8_pickSpares (Qv n R (V11 I0 L0 Q))) 38 [(0, .ref 326), (1, .ref p1), (2, .int v2), (3, .int v3), (5, .int v5), (6, .int v6), (7, .int v7), (8, .int v8)] [] n I L R 0 0) (h : jn_X8_pickSpares_151 I L v7 v8 v10 v12 kj38) : X E l rm_X8_pickSpares yX8_pickSpares cX8_pickSpares 13 none noX (ZM E rm_X8_pickSpares (Qv n R (V11 I0 L0 Q))) 151 [(0, .ref 326), (1, .ref p1), (2, .int v2), (3, .int v3), (5, .int v5), (6, .int v6), (7, .int v7), (8, .int v8), (10, .long v10), (12, .int v12)] [] n I L R 0 0 := by
  unfold jn_X8_pickSpares_151 at h
  refine x_aload_n dX8_pickSpares_151 rfl ?_
  refine x_getr (j := 333) dX8_pickSpares_152 fk_RX8_35 (kl rfl hn) sh_326 (rt_326_7 hG) ?_
  refine x_iload dX8_pickSpares_155 rfl ?_
  refine x_lload dX8_pickSpares_157 rfl ?_
  obtain ⟨b10, h⟩ := h
  refine x_lastore dX8_pickSpares_159 (kl rfl hn) sh_333 b10 (fun L11 eL11 => ?_)
  have h := h L11 eL11
  refine x_aload_n dX8_pickSpares_160 rfl ?_
  refine x_getr (j := 334) dX8_pickSpares_161 fk_RX8_38 (kl rfl hn) sh_326 (rt_326_8 hG) ?_
  refine x_iload dX8_pickSpares_164 rfl ?_
  refine x_iload dX8_pickSpares_166 rfl ?_
  obtain ⟨b12, h⟩ := h
  refine x_iastore dX8_pickSpares_168 (kl rfl hn) sh_334 b12 (fun I13 eI13 => ?_)
  have h := h I13 eI13
  refine x_aload_n dX8_pickSpares_169 rfl ?_
  refine x_getr (j := 335) dX8_pickSpares_170 fk_RX8_41 (kl rfl hn) sh_326 (rt_326_9 hG) ?_
  refine x_iload dX8_pickSpares_173 rfl ?_
  refine x_iload dX8_pickSpares_175 rfl ?_
  obtain ⟨b14, h⟩ := h
  refine x_iastore dX8_pickSpares_177 (kl rfl hn) sh_335 b14 (fun I15 eI15 => ?_)
  have h := h I15 eI15
  refine x_ls (ls' := [(0, .ref 326), (1, .ref p1), (2, .int v2), (3, .int v3), (5, .int v5), (6, .int v6), (7, .int v7), (8, .int v8)]) [0, 1, 2, 3, 4, 5, 6, 7] rfl ?_
  refine jnt_X8_pickSpares_178 hn hG hp1 (fun x16 I17 L18 h => ?_) h
  exact hJ38 x16 I17 L18 h
def lp_X8_pickSpares_38 (p1 : Nat) (v2 : Int32) (v3 : Int32) (v5 : Int32) (v6 : Int32) (v7 : Int32) (Q : MI → ML → Prop) : Nat → Int32 → MI → ML → Prop
  | 0, _, _, _ => False
  | n + 1, v8, I, L =>
    (vp_in v5 16 ∧ (((I (p1 + 6) (ix v5)) < v8 → Q I L) ∧ (¬ (I (p1 + 6) (ix v5)) < v8 → ((v3 < (v8 * v6) → Q I L) ∧ (¬ v3 < (v8 * v6) → (wp_X8_lackOf L v5 v8 (fun x6 => ((vp_in ((((v2 + 1) * 100) + v3) - (v8 * v6)) 1000 ∧ (vp_in ((((v2 + 1) * 100) + v3) - (v8 * v6)) 1000 ∧ ((v8 = 0 → (jn_X8_pickSpares_151 I L v7 v8 (x6 + (L 333 (ix ((((v2 + 1) * 100) + v3) - (v8 * v6))))) ((v8 * v6) + (I 334 (ix ((((v2 + 1) * 100) + v3) - (v8 * v6))))) (fun x19 I20 L21 => (lp_X8_pickSpares_38 p1 v2 v3 v5 v6 v7 Q n x19 I20 L21)))) ∧ (¬ v8 = 0 → (vp_in v7 1000 ∧ (((lg_cmp (x6 + (L 333 (ix ((((v2 + 1) * 100) + v3) - (v8 * v6))))) (L 333 (ix v7))) < 0 → (jn_X8_pickSpares_151 I L v7 v8 (x6 + (L 333 (ix ((((v2 + 1) * 100) + v3) - (v8 * v6))))) ((v8 * v6) + (I 334 (ix ((((v2 + 1) * 100) + v3) - (v8 * v6))))) (fun x24 I25 L26 => (lp_X8_pickSpares_38 p1 v2 v3 v5 v6 v7 Q n x24 I25 L26)))) ∧ (¬ (lg_cmp (x6 + (L 333 (ix ((((v2 + 1) * 100) + v3) - (v8 * v6))))) (L 333 (ix v7))) < 0 → (vp_in v7 1000 ∧ ((¬ (lg_cmp (x6 + (L 333 (ix ((((v2 + 1) * 100) + v3) - (v8 * v6))))) (L 333 (ix v7))) = 0 → (jn_X8_pickSpares_178 I L v8 (fun x29 I30 L31 => (lp_X8_pickSpares_38 p1 v2 v3 v5 v6 v7 Q n x29 I30 L31)))) ∧ ((lg_cmp (x6 + (L 333 (ix ((((v2 + 1) * 100) + v3) - (v8 * v6))))) (L 333 (ix v7))) = 0 → (vp_in v7 1000 ∧ (((I 334 (ix v7)) ≤ ((v8 * v6) + (I 334 (ix ((((v2 + 1) * 100) + v3) - (v8 * v6))))) → (jn_X8_pickSpares_178 I L v8 (fun x34 I35 L36 => (lp_X8_pickSpares_38 p1 v2 v3 v5 v6 v7 Q n x34 I35 L36)))) ∧ (¬ (I 334 (ix v7)) ≤ ((v8 * v6) + (I 334 (ix ((((v2 + 1) * 100) + v3) - (v8 * v6))))) → (jn_X8_pickSpares_151 I L v7 v8 (x6 + (L 333 (ix ((((v2 + 1) * 100) + v3) - (v8 * v6))))) ((v8 * v6) + (I 334 (ix ((((v2 + 1) * 100) + v3) - (v8 * v6))))) (fun x37 I38 L39 => (lp_X8_pickSpares_38 p1 v2 v3 v5 v6 v7 Q n x37 I38 L39))))))))))))))))))))))))
set_option maxRecDepth 20000 in
theorem lpt_X8_pickSpares_38 {E : Ev} {l : Launch} {n : Nat} {R : MR} {p1 : Nat} (hn : 336 ≤ n) (hG : GRx R) (hp1 : isPlan p1) {I0 : MI} {L0 : ML} {Q : MI → ML → Prop} {v2 : Int32} {v3 : Int32} {v5 : Int32} {v6 : Int32} {v7 : Int32} : ∀ (N : Nat) (v8 : Int32) (I : MI) (L : ML), lp_X8_pickSpares_38 p1 v2 v3 v5 v6 v7 Q N v8 I L → X E l rm_X8_pickSpares yX8_pickSpares cX8_pickSpares 13 none noX (ZM E rm_X8_pickSpares (Qv n R (V11 I0 L0 Q))) 38 [(0, .ref 326), (1, .ref p1), (2, .int v2), (3, .int v3), (5, .int v5), (6, .int v6), (7, .int v7), (8, .int v8)] [] n I L R 0 0 := by
  intro N
  induction N with
  | zero => intro v8 I L h; exact False.elim h
  | succ N ih =>
    intro v8 I L h
    unfold lp_X8_pickSpares_38 at h
    refine x_iload dX8_pickSpares_38 rfl ?_
    refine x_aload_n dX8_pickSpares_40 rfl ?_
    refine x_getr (j := p1 + 6) dX8_pickSpares_41 fk_RX8_54 (Pn_k hp1 hn 0 rfl) (Pn_s0 hp1) (Pn_r10 hG hp1) ?_
    refine x_iload dX8_pickSpares_44 rfl ?_
    obtain ⟨b3, h⟩ := h
    refine x_iaload dX8_pickSpares_46 (Pn_k hp1 hn 6 rfl) (Pn_s6 hp1) b3 ?_
    refine x_icmp_gt dX8_pickSpares_47 (tgt := 184) rfl ⟨fun c4 => ?_, fun c4 => ?_⟩
    · have h := h.1 c4
      exact x_return dX8_pickSpares_184 ⟨rfl, rfl, rfl, h⟩
    · have h := h.2 c4
      refine x_iload dX8_pickSpares_50 rfl ?_
      refine x_iload dX8_pickSpares_52 rfl ?_
      refine x_imul dX8_pickSpares_54 ?_
      refine x_iload_n dX8_pickSpares_55 rfl ?_
      refine x_icmp_gt dX8_pickSpares_56 (tgt := 184) rfl ⟨fun c5 => ?_, fun c5 => ?_⟩
      · have h := h.1 c5
        exact x_return dX8_pickSpares_184 ⟨rfl, rfl, rfl, h⟩
      · have h := h.2 c5
        refine x_iload_n dX8_pickSpares_59 rfl ?_
        refine x_iconst (v := 1) dX8_pickSpares_60 ki_1 ?_
        refine x_iadd dX8_pickSpares_61 ?_
        refine x_bipush (v := 100) dX8_pickSpares_62 kb_100 ?_
        refine x_imul dX8_pickSpares_64 ?_
        refine x_iload_n dX8_pickSpares_65 rfl ?_
        refine x_iadd dX8_pickSpares_66 ?_
        refine x_iload dX8_pickSpares_67 rfl ?_
        refine x_iload dX8_pickSpares_69 rfl ?_
        refine x_imul dX8_pickSpares_71 ?_
        refine x_isub dX8_pickSpares_72 ?_
        refine x_istore (ls' := [(9, .int ((((v2 + 1) * 100) + v3) - (v8 * v6))), (0, .ref 326), (1, .ref p1), (2, .int v2), (3, .int v3), (5, .int v5), (6, .int v6), (7, .int v7), (8, .int v8)]) dX8_pickSpares_73 (Nat.le_of_ble_eq_true rfl) rfl ?_
        refine x_aload_n dX8_pickSpares_75 rfl ?_
        refine x_iload dX8_pickSpares_76 rfl ?_
        refine x_iload dX8_pickSpares_78 rfl ?_
        refine x_cVl00 [.int v5, .int v8] (mt_X8_lackOf hn hG h) dX8_pickSpares_80 lk_RX8_84 (kl rfl hn) sh_326 rfl rfl (Nat.le_of_ble_eq_true rfl) (Rf_of rfl) (fun x6 h => ?_)
        refine x_aload_n dX8_pickSpares_83 rfl ?_
        refine x_getr (j := 333) dX8_pickSpares_84 fk_RX8_35 (kl rfl hn) sh_326 (rt_326_7 hG) ?_
        refine x_iload dX8_pickSpares_87 rfl ?_
        obtain ⟨b7, h⟩ := h
        refine x_laload dX8_pickSpares_89 (kl rfl hn) sh_333 b7 ?_
        refine x_ladd dX8_pickSpares_90 ?_
        refine x_lstore (ls' := [(10, .long (x6 + (L 333 (ix ((((v2 + 1) * 100) + v3) - (v8 * v6)))))), (9, .int ((((v2 + 1) * 100) + v3) - (v8 * v6))), (0, .ref 326), (1, .ref p1), (2, .int v2), (3, .int v3), (5, .int v5), (6, .int v6), (7, .int v7), (8, .int v8)]) dX8_pickSpares_91 (Nat.le_of_ble_eq_true rfl) rfl ?_
        refine x_iload dX8_pickSpares_93 rfl ?_
        refine x_iload dX8_pickSpares_95 rfl ?_
        refine x_imul dX8_pickSpares_97 ?_
        refine x_aload_n dX8_pickSpares_98 rfl ?_
        refine x_getr (j := 334) dX8_pickSpares_99 fk_RX8_38 (kl rfl hn) sh_326 (rt_326_8 hG) ?_
        refine x_iload dX8_pickSpares_102 rfl ?_
        obtain ⟨b8, h⟩ := h
        refine x_iaload dX8_pickSpares_104 (kl rfl hn) sh_334 b8 ?_
        refine x_iadd dX8_pickSpares_105 ?_
        refine x_istore (ls' := [(12, .int ((v8 * v6) + (I 334 (ix ((((v2 + 1) * 100) + v3) - (v8 * v6)))))), (10, .long (x6 + (L 333 (ix ((((v2 + 1) * 100) + v3) - (v8 * v6)))))), (9, .int ((((v2 + 1) * 100) + v3) - (v8 * v6))), (0, .ref 326), (1, .ref p1), (2, .int v2), (3, .int v3), (5, .int v5), (6, .int v6), (7, .int v7), (8, .int v8)]) dX8_pickSpares_106 (Nat.le_of_ble_eq_true rfl) rfl ?_
        refine x_iload dX8_pickSpares_108 rfl ?_
        refine x_if_eq dX8_pickSpares_110 (tgt := 151) rfl ⟨fun c9 => ?_, fun c9 => ?_⟩
        · have h := h.1 c9
          refine x_ls (ls' := [(0, .ref 326), (1, .ref p1), (2, .int v2), (3, .int v3), (5, .int v5), (6, .int v6), (7, .int v7), (8, .int v8), (10, .long (x6 + (L 333 (ix ((((v2 + 1) * 100) + v3) - (v8 * v6)))))), (12, .int ((v8 * v6) + (I 334 (ix ((((v2 + 1) * 100) + v3) - (v8 * v6))))))]) [3, 4, 5, 6, 7, 8, 9, 10, 1, 0] rfl ?_
          refine jnt_X8_pickSpares_151 hn hG hp1 (fun x19 I20 L21 h => ?_) h
          exact ih x19 I20 L21 h
        · have h := h.2 c9
          refine x_lload dX8_pickSpares_113 rfl ?_
          refine x_aload_n dX8_pickSpares_115 rfl ?_
          refine x_getr (j := 333) dX8_pickSpares_116 fk_RX8_35 (kl rfl hn) sh_326 (rt_326_7 hG) ?_
          refine x_iload dX8_pickSpares_119 rfl ?_
          obtain ⟨b22, h⟩ := h
          refine x_laload dX8_pickSpares_121 (kl rfl hn) sh_333 b22 ?_
          refine x_lcmp dX8_pickSpares_122 ?_
          refine x_if_lt dX8_pickSpares_123 (tgt := 151) rfl ⟨fun c23 => ?_, fun c23 => ?_⟩
          · have h := h.1 c23
            refine x_ls (ls' := [(0, .ref 326), (1, .ref p1), (2, .int v2), (3, .int v3), (5, .int v5), (6, .int v6), (7, .int v7), (8, .int v8), (10, .long (x6 + (L 333 (ix ((((v2 + 1) * 100) + v3) - (v8 * v6)))))), (12, .int ((v8 * v6) + (I 334 (ix ((((v2 + 1) * 100) + v3) - (v8 * v6))))))]) [3, 4, 5, 6, 7, 8, 9, 10, 1, 0] rfl ?_
            refine jnt_X8_pickSpares_151 hn hG hp1 (fun x24 I25 L26 h => ?_) h
            exact ih x24 I25 L26 h
          · have h := h.2 c23
            refine x_lload dX8_pickSpares_126 rfl ?_
            refine x_aload_n dX8_pickSpares_128 rfl ?_
            refine x_getr (j := 333) dX8_pickSpares_129 fk_RX8_35 (kl rfl hn) sh_326 (rt_326_7 hG) ?_
            refine x_iload dX8_pickSpares_132 rfl ?_
            obtain ⟨b27, h⟩ := h
            refine x_laload dX8_pickSpares_134 (kl rfl hn) sh_333 b27 ?_
            refine x_lcmp dX8_pickSpares_135 ?_
            refine x_if_ne dX8_pickSpares_136 (tgt := 178) rfl ⟨fun c28 => ?_, fun c28 => ?_⟩
            · have h := h.1 c28
              refine x_ls (ls' := [(0, .ref 326), (1, .ref p1), (2, .int v2), (3, .int v3), (5, .int v5), (6, .int v6), (7, .int v7), (8, .int v8)]) [3, 4, 5, 6, 7, 8, 9, 10] rfl ?_
              refine jnt_X8_pickSpares_178 hn hG hp1 (fun x29 I30 L31 h => ?_) h
              exact ih x29 I30 L31 h
            · have h := h.2 c28
              refine x_iload dX8_pickSpares_139 rfl ?_
              refine x_aload_n dX8_pickSpares_141 rfl ?_
              refine x_getr (j := 334) dX8_pickSpares_142 fk_RX8_38 (kl rfl hn) sh_326 (rt_326_8 hG) ?_
              refine x_iload dX8_pickSpares_145 rfl ?_
              obtain ⟨b32, h⟩ := h
              refine x_iaload dX8_pickSpares_147 (kl rfl hn) sh_334 b32 ?_
              refine x_icmp_ge dX8_pickSpares_148 (tgt := 178) rfl ⟨fun c33 => ?_, fun c33 => ?_⟩
              · have h := h.1 c33
                refine x_ls (ls' := [(0, .ref 326), (1, .ref p1), (2, .int v2), (3, .int v3), (5, .int v5), (6, .int v6), (7, .int v7), (8, .int v8)]) [3, 4, 5, 6, 7, 8, 9, 10] rfl ?_
                refine jnt_X8_pickSpares_178 hn hG hp1 (fun x34 I35 L36 h => ?_) h
                exact ih x34 I35 L36 h
              · have h := h.2 c33
                refine x_ls (ls' := [(0, .ref 326), (1, .ref p1), (2, .int v2), (3, .int v3), (5, .int v5), (6, .int v6), (7, .int v7), (8, .int v8), (10, .long (x6 + (L 333 (ix ((((v2 + 1) * 100) + v3) - (v8 * v6)))))), (12, .int ((v8 * v6) + (I 334 (ix ((((v2 + 1) * 100) + v3) - (v8 * v6))))))]) [3, 4, 5, 6, 7, 8, 9, 10, 1, 0] rfl ?_
                refine jnt_X8_pickSpares_151 hn hG hp1 (fun x37 I38 L39 h => ?_) h
                exact ih x37 I38 L39 h
def wp_X8_pickSpares (p1 : Nat) (I : MI) (L : ML) (v2 : Int32) (v3 : Int32) (Q : MI → ML → Prop) : Prop :=
    (wp_X9_placeOf (v2 / 3) (v2 - v2 / 3 * 3) (fun x1 => ((vp_in (v2 - v2 / 3 * 3) 4 ∧ (∃ N40, lp_X8_pickSpares_38 p1 v2 v3 (x1 &&& 15) (I (p1 + 1) (ix (v2 - v2 / 3 * 3))) ((v2 * 100) + v3) Q N40 0 I L)))))
set_option maxRecDepth 20000 in
theorem mt_X8_pickSpares {E : Ev} {l : Launch} {n : Nat} {R : MR} {p1 : Nat} (hn : 336 ≤ n) (hG : GRx R) (hp1 : isPlan p1) {I : MI} {L : ML} {v2 : Int32} {v3 : Int32} {Q : MI → ML → Prop} (h : wp_X8_pickSpares p1 I L v2 v3 Q) : MX E l rm_X8_pickSpares yX8_pickSpares cX8_pickSpares 13 none [.ref 326, .ref p1, .int v2, .int v3] n I L R (Qv n R (V11 I L Q)) := by
  refine MX_of (ls := [(0, .ref 326), (1, .ref p1), (2, .int v2), (3, .int v3)]) (by decide) (Nat.le_of_ble_eq_true rfl) rfl ?_
  unfold wp_X8_pickSpares at h
  refine x_iload_n dX8_pickSpares_0 rfl ?_
  refine x_iconst (v := 3) dX8_pickSpares_1 ki_3 ?_
  refine x_irem dX8_pickSpares_2 (by decide) ?_
  refine x_istore (ls' := [(4, .int (v2 - v2 / 3 * 3)), (0, .ref 326), (1, .ref p1), (2, .int v2), (3, .int v3)]) dX8_pickSpares_3 (Nat.le_of_ble_eq_true rfl) rfl ?_
  refine x_iload_n dX8_pickSpares_5 rfl ?_
  refine x_iconst (v := 3) dX8_pickSpares_6 ki_3 ?_
  refine x_idiv dX8_pickSpares_7 (by decide) ?_
  refine x_iload dX8_pickSpares_8 rfl ?_
  refine x_cNi00 [.int (v2 / 3), .int (v2 - v2 / 3 * 3)] (mt_X9_placeOf hn hG h) dX8_pickSpares_10 lk_RX8_80 rfl rfl (Nat.le_of_ble_eq_true rfl) (Rf_of rfl) (fun x1 h => ?_)
  refine x_bipush (v := 15) dX8_pickSpares_13 kb_15 ?_
  refine x_iand dX8_pickSpares_15 ?_
  refine x_istore (ls' := [(5, .int (x1 &&& 15)), (4, .int (v2 - v2 / 3 * 3)), (0, .ref 326), (1, .ref p1), (2, .int v2), (3, .int v3)]) dX8_pickSpares_16 (Nat.le_of_ble_eq_true rfl) rfl ?_
  refine x_aload_n dX8_pickSpares_18 rfl ?_
  refine x_getr (j := p1 + 1) dX8_pickSpares_19 fk_RX8_99 (Pn_k hp1 hn 0 rfl) (Pn_s0 hp1) (Pn_r5 hG hp1) ?_
  refine x_iload dX8_pickSpares_22 rfl ?_
  obtain ⟨b2, h⟩ := h
  refine x_iaload dX8_pickSpares_24 (Pn_k hp1 hn 1 rfl) (Pn_s1 hp1) b2 ?_
  refine x_istore (ls' := [(6, .int (I (p1 + 1) (ix (v2 - v2 / 3 * 3)))), (5, .int (x1 &&& 15)), (4, .int (v2 - v2 / 3 * 3)), (0, .ref 326), (1, .ref p1), (2, .int v2), (3, .int v3)]) dX8_pickSpares_25 (Nat.le_of_ble_eq_true rfl) rfl ?_
  refine x_iload_n dX8_pickSpares_27 rfl ?_
  refine x_bipush (v := 100) dX8_pickSpares_28 kb_100 ?_
  refine x_imul dX8_pickSpares_30 ?_
  refine x_iload_n dX8_pickSpares_31 rfl ?_
  refine x_iadd dX8_pickSpares_32 ?_
  refine x_istore (ls' := [(7, .int ((v2 * 100) + v3)), (6, .int (I (p1 + 1) (ix (v2 - v2 / 3 * 3)))), (5, .int (x1 &&& 15)), (4, .int (v2 - v2 / 3 * 3)), (0, .ref 326), (1, .ref p1), (2, .int v2), (3, .int v3)]) dX8_pickSpares_33 (Nat.le_of_ble_eq_true rfl) rfl ?_
  refine x_iconst (v := 0) dX8_pickSpares_35 ki_0 ?_
  refine x_istore (ls' := [(8, .int 0), (7, .int ((v2 * 100) + v3)), (6, .int (I (p1 + 1) (ix (v2 - v2 / 3 * 3)))), (5, .int (x1 &&& 15)), (4, .int (v2 - v2 / 3 * 3)), (0, .ref 326), (1, .ref p1), (2, .int v2), (3, .int v3)]) dX8_pickSpares_36 (Nat.le_of_ble_eq_true rfl) rfl ?_
  refine x_ls (ls' := [(0, .ref 326), (1, .ref p1), (2, .int v2), (3, .int v3), (5, .int (x1 &&& 15)), (6, .int (I (p1 + 1) (ix (v2 - v2 / 3 * 3)))), (7, .int ((v2 * 100) + v3)), (8, .int 0)]) [5, 6, 7, 8, 3, 2, 1, 0] rfl ?_
  obtain ⟨N40, h⟩ := h
  exact lpt_X8_pickSpares_38 hn hG hp1  N40 0 I L h
abbrev rm_X8_learnBest : Room := { frames := 3, cells := 0, slots := 0, locals := 71 }
def lp_X8_learnBest_15 (kf49 : MI → ML → Prop) : Nat → Int32 → MI → ML → Prop
  | 0, _, _, _ => False
  | n + 1, v2, I, L =>
    ((100 ≤ v2 → kf49 I L) ∧ (¬ 100 ≤ v2 → (vp_in (900 + v2) 1000 ∧ (∀ L6, L6 = u2 L 333 (ix (900 + v2)) 0 → (vp_in (900 + v2) 1000 ∧ (∀ I8, I8 = u2 I 334 (ix (900 + v2)) 0 → (lp_X8_learnBest_15 kf49 n (v2 + 1) I8 L6)))))))
set_option maxRecDepth 20000 in
theorem lpt_X8_learnBest_15 {E : Ev} {l : Launch} {n : Nat} {R : MR} {p1 : Nat} (hn : 336 ≤ n) (hG : GRx R) (hp1 : isPlan p1) {I0 : MI} {L0 : ML} {Q : MI → ML → Prop} {kf49 : MI → ML → Prop}
    (hK49 : ∀ (I : MI) (L : ML), kf49 I L → X E l rm_X8_learnBest yX8_learnBest cX8_learnBest 4 none noX (ZM E rm_X8_learnBest (Qv n R (V11 I0 L0 Q))) 49 [(0, .ref 326), (1, .ref p1)] [] n I L R 0 0) : ∀ (N : Nat) (v2 : Int32) (I : MI) (L : ML), lp_X8_learnBest_15 kf49 N v2 I L → X E l rm_X8_learnBest yX8_learnBest cX8_learnBest 4 none noX (ZM E rm_X8_learnBest (Qv n R (V11 I0 L0 Q))) 15 [(0, .ref 326), (1, .ref p1), (2, .int v2)] [] n I L R 0 0 := by
  intro N
  induction N with
  | zero => intro v2 I L h; exact False.elim h
  | succ N ih =>
    intro v2 I L h
    unfold lp_X8_learnBest_15 at h
    refine x_iload_n dX8_learnBest_15 rfl ?_
    refine x_bipush (v := 100) dX8_learnBest_16 kb_100 ?_
    refine x_icmp_ge dX8_learnBest_18 (tgt := 49) rfl ⟨fun c4 => ?_, fun c4 => ?_⟩
    · have h := h.1 c4
      refine x_ls (ls' := [(0, .ref 326), (1, .ref p1)]) [0, 1] rfl ?_
      exact hK49 I L h
    · have h := h.2 c4
      refine x_aload_n dX8_learnBest_21 rfl ?_
      refine x_getr (j := 333) dX8_learnBest_22 fk_RX8_35 (kl rfl hn) sh_326 (rt_326_7 hG) ?_
      refine x_sipush (v := 900) dX8_learnBest_25 ks_900 ?_
      refine x_iload_n dX8_learnBest_28 rfl ?_
      refine x_iadd dX8_learnBest_29 ?_
      refine x_lconst (v := 0) dX8_learnBest_30 rfl ?_
      obtain ⟨b5, h⟩ := h
      refine x_lastore dX8_learnBest_31 (kl rfl hn) sh_333 b5 (fun L6 eL6 => ?_)
      have h := h L6 eL6
      refine x_aload_n dX8_learnBest_32 rfl ?_
      refine x_getr (j := 334) dX8_learnBest_33 fk_RX8_38 (kl rfl hn) sh_326 (rt_326_8 hG) ?_
      refine x_sipush (v := 900) dX8_learnBest_36 ks_900 ?_
      refine x_iload_n dX8_learnBest_39 rfl ?_
      refine x_iadd dX8_learnBest_40 ?_
      refine x_iconst (v := 0) dX8_learnBest_41 ki_0 ?_
      obtain ⟨b7, h⟩ := h
      refine x_iastore dX8_learnBest_42 (kl rfl hn) sh_334 b7 (fun I8 eI8 => ?_)
      have h := h I8 eI8
      refine x_iinc (v := v2 + 1) (ls' := [(2, .int (v2 + 1)), (0, .ref 326), (1, .ref p1)]) dX8_learnBest_43 rfl (congrArg (_ + ·) ki_1) (Nat.le_of_ble_eq_true rfl) rfl ?_
      refine x_goto dX8_learnBest_46 (tgt := 15) rfl ?_
      refine x_ls (ls' := [(0, .ref 326), (1, .ref p1), (2, .int (v2 + 1))]) [1, 2, 0] rfl ?_
      exact ih (v2 + 1) I8 L6 h
def lp_X8_learnBest_58 (p1 : Nat) (v2 : Int32) (kf77 : MI → ML → Prop) : Nat → Int32 → MI → ML → Prop
  | 0, _, _, _ => False
  | n + 1, v3, I, L =>
    ((100 ≤ v3 → kf77 I L) ∧ (¬ 100 ≤ v3 → (wp_X8_pickSpares p1 I L v2 v3 (fun I15 L16 => ((lp_X8_learnBest_58 p1 v2 kf77 n (v3 + 1) I15 L16))))))
set_option maxRecDepth 20000 in
theorem lpt_X8_learnBest_58 {E : Ev} {l : Launch} {n : Nat} {R : MR} {p1 : Nat} (hn : 336 ≤ n) (hG : GRx R) (hp1 : isPlan p1) {I0 : MI} {L0 : ML} {Q : MI → ML → Prop} {v2 : Int32} {kf77 : MI → ML → Prop}
    (hK77 : ∀ (I : MI) (L : ML), kf77 I L → X E l rm_X8_learnBest yX8_learnBest cX8_learnBest 4 none noX (ZM E rm_X8_learnBest (Qv n R (V11 I0 L0 Q))) 77 [(0, .ref 326), (1, .ref p1), (2, .int v2)] [] n I L R 0 0) : ∀ (N : Nat) (v3 : Int32) (I : MI) (L : ML), lp_X8_learnBest_58 p1 v2 kf77 N v3 I L → X E l rm_X8_learnBest yX8_learnBest cX8_learnBest 4 none noX (ZM E rm_X8_learnBest (Qv n R (V11 I0 L0 Q))) 58 [(0, .ref 326), (1, .ref p1), (2, .int v2), (3, .int v3)] [] n I L R 0 0 := by
  intro N
  induction N with
  | zero => intro v3 I L h; exact False.elim h
  | succ N ih =>
    intro v3 I L h
    unfold lp_X8_learnBest_58 at h
    refine x_iload_n dX8_learnBest_58 rfl ?_
    refine x_bipush (v := 100) dX8_learnBest_59 kb_100 ?_
    refine x_icmp_ge dX8_learnBest_61 (tgt := 77) rfl ⟨fun c14 => ?_, fun c14 => ?_⟩
    · have h := h.1 c14
      refine x_ls (ls' := [(0, .ref 326), (1, .ref p1), (2, .int v2)]) [0, 1, 2] rfl ?_
      exact hK77 I L h
    · have h := h.2 c14
      refine x_aload_n dX8_learnBest_64 rfl ?_
      refine x_aload_n dX8_learnBest_65 rfl ?_
      refine x_iload_n dX8_learnBest_66 rfl ?_
      refine x_iload_n dX8_learnBest_67 rfl ?_
      refine x_cVv11 [.ref p1, .int v2, .int v3] (mt_X8_pickSpares hn hG hp1 h) dX8_learnBest_68 lk_RX8_113 (kl rfl hn) sh_326 rfl rfl (Nat.le_of_ble_eq_true rfl) (Rf_of rfl) (fun I15 L16 h => ?_)
      refine x_iinc (v := v3 + 1) (ls' := [(3, .int (v3 + 1)), (0, .ref 326), (1, .ref p1), (2, .int v2)]) dX8_learnBest_71 rfl (congrArg (_ + ·) ki_1) (Nat.le_of_ble_eq_true rfl) rfl ?_
      refine x_goto dX8_learnBest_74 (tgt := 58) rfl ?_
      refine x_ls (ls' := [(0, .ref 326), (1, .ref p1), (2, .int v2), (3, .int (v3 + 1))]) [1, 2, 3, 0] rfl ?_
      exact ih (v3 + 1) I15 L16 h
def lp_X8_learnBest_52 (p1 : Nat) (Q : MI → ML → Prop) : Nat → Int32 → MI → ML → Prop
  | 0, _, _, _ => False
  | n + 1, v2, I, L =>
    ((v2 < 0 → (∀ I13, I13 = u2 I 326 12 1 → Q I13 L)) ∧ (¬ v2 < 0 → (∃ N17, lp_X8_learnBest_58 p1 v2 (fun I18 L19 => (lp_X8_learnBest_52 p1 Q n (v2 + (-1)) I18 L19)) N17 0 I L)))
set_option maxRecDepth 20000 in
theorem lpt_X8_learnBest_52 {E : Ev} {l : Launch} {n : Nat} {R : MR} {p1 : Nat} (hn : 336 ≤ n) (hG : GRx R) (hp1 : isPlan p1) {I0 : MI} {L0 : ML} {Q : MI → ML → Prop} : ∀ (N : Nat) (v2 : Int32) (I : MI) (L : ML), lp_X8_learnBest_52 p1 Q N v2 I L → X E l rm_X8_learnBest yX8_learnBest cX8_learnBest 4 none noX (ZM E rm_X8_learnBest (Qv n R (V11 I0 L0 Q))) 52 [(0, .ref 326), (1, .ref p1), (2, .int v2)] [] n I L R 0 0 := by
  intro N
  induction N with
  | zero => intro v2 I L h; exact False.elim h
  | succ N ih =>
    intro v2 I L h
    unfold lp_X8_learnBest_52 at h
    refine x_iload_n dX8_learnBest_52 rfl ?_
    refine x_if_lt dX8_learnBest_53 (tgt := 83) rfl ⟨fun c12 => ?_, fun c12 => ?_⟩
    · have h := h.1 c12
      refine x_aload_n dX8_learnBest_83 rfl ?_
      refine x_iconst (v := 1) dX8_learnBest_84 ki_1 ?_
      refine x_puti dX8_learnBest_85 fk_RX8_51 fw_6_12 rfl rfl (kl rfl hn) sh_326 (fun I13 eI13 => ?_)
      have h := h I13 eI13
      exact x_return dX8_learnBest_88 ⟨rfl, rfl, rfl, h⟩
    · have h := h.2 c12
      refine x_iconst (v := 0) dX8_learnBest_56 ki_0 ?_
      refine x_istore_n (ls' := [(3, .int 0), (0, .ref 326), (1, .ref p1), (2, .int v2)]) dX8_learnBest_57 (Nat.le_of_ble_eq_true rfl) rfl ?_
      refine x_ls (ls' := [(0, .ref 326), (1, .ref p1), (2, .int v2), (3, .int 0)]) [1, 2, 3, 0] rfl ?_
      obtain ⟨N17, h⟩ := h
      refine lpt_X8_learnBest_58 hn hG hp1 (fun I18 L19 h => ?_) N17 0 I L h
      refine x_iinc (v := v2 + (-1)) (ls' := [(2, .int (v2 + (-1))), (0, .ref 326), (1, .ref p1)]) dX8_learnBest_77 rfl (congrArg (_ + ·) ki_m1) (Nat.le_of_ble_eq_true rfl) rfl ?_
      refine x_goto dX8_learnBest_80 (tgt := 52) rfl ?_
      refine x_ls (ls' := [(0, .ref 326), (1, .ref p1), (2, .int (v2 + (-1)))]) [1, 2, 0] rfl ?_
      exact ih (v2 + (-1)) I18 L19 h
def wp_X8_learnBest (p1 : Nat) (I : MI) (L : ML) (Q : MI → ML → Prop) : Prop :=
    (wp_X8_learnLack p1 I L (fun I1 L2 => ((((I1 326 12) = 0 → (∃ N9, lp_X8_learnBest_15 (fun I10 L11 => (∃ N20, lp_X8_learnBest_52 p1 Q N20 8 I10 L11)) N9 0 I1 L2)) ∧ (¬ (I1 326 12) = 0 → Q I1 L2)))))
set_option maxRecDepth 20000 in
theorem mt_X8_learnBest {E : Ev} {l : Launch} {n : Nat} {R : MR} {p1 : Nat} (hn : 336 ≤ n) (hG : GRx R) (hp1 : isPlan p1) {I : MI} {L : ML} {Q : MI → ML → Prop} (h : wp_X8_learnBest p1 I L Q) : MX E l rm_X8_learnBest yX8_learnBest cX8_learnBest 4 none [.ref 326, .ref p1] n I L R (Qv n R (V11 I L Q)) := by
  refine MX_of (ls := [(0, .ref 326), (1, .ref p1)]) (by decide) (Nat.le_of_ble_eq_true rfl) rfl ?_
  unfold wp_X8_learnBest at h
  refine x_aload_n dX8_learnBest_0 rfl ?_
  refine x_aload_n dX8_learnBest_1 rfl ?_
  refine x_cVv11 [.ref p1] (mt_X8_learnLack hn hG hp1 h) dX8_learnBest_2 lk_RX8_91 (kl rfl hn) sh_326 rfl rfl (Nat.le_of_ble_eq_true rfl) (Rf_of rfl) (fun I1 L2 h => ?_)
  refine x_aload_n dX8_learnBest_5 rfl ?_
  refine x_geti dX8_learnBest_6 fk_RX8_51 (kl rfl hn) sh_326 ?_
  refine x_if_eq dX8_learnBest_9 (tgt := 13) rfl ⟨fun c3 => ?_, fun c3 => ?_⟩
  · have h := h.1 c3
    refine x_iconst (v := 0) dX8_learnBest_13 ki_0 ?_
    refine x_istore_n (ls' := [(2, .int 0), (0, .ref 326), (1, .ref p1)]) dX8_learnBest_14 (Nat.le_of_ble_eq_true rfl) rfl ?_
    refine x_ls (ls' := [(0, .ref 326), (1, .ref p1), (2, .int 0)]) [1, 2, 0] rfl ?_
    obtain ⟨N9, h⟩ := h
    refine lpt_X8_learnBest_15 hn hG hp1 (fun I10 L11 h => ?_) N9 0 I1 L2 h
    refine x_bipush (v := 8) dX8_learnBest_49 kb_8 ?_
    refine x_istore_n (ls' := [(2, .int 8), (0, .ref 326), (1, .ref p1)]) dX8_learnBest_51 (Nat.le_of_ble_eq_true rfl) rfl ?_
    refine x_ls (ls' := [(0, .ref 326), (1, .ref p1), (2, .int 8)]) [1, 2, 0] rfl ?_
    obtain ⟨N20, h⟩ := h
    exact lpt_X8_learnBest_52 hn hG hp1  N20 8 I10 L11 h
  · have h := h.2 c3
    exact x_return dX8_learnBest_12 ⟨rfl, rfl, rfl, h⟩
abbrev rm_X8_nextBuy : Room := { frames := 2, cells := 0, slots := 0, locals := 45 }
def jn_X8_nextBuy_95 (v2 : Int32) (v3 : Int64) (v5 : Int32) (v7 : Int32) (kj28 : Int32 → Int64 → Int32 → Int32 → Prop) : Prop :=
    kj28 v2 v3 v5 (v7 + 1)
set_option maxRecDepth 20000 in
theorem jnt_X8_nextBuy_95 {E : Ev} {l : Launch} {n : Nat} {R : MR} {p1 : Nat} (hn : 336 ≤ n) (hG : GRx R) (hp1 : isPlan p1) {Q : Int32 → Prop} {I : MI} {L : ML} {v2 : Int32} {v3 : Int64} {v5 : Int32} {v6 : Int32} {v7 : Int32} {kj28 : Int32 → Int64 → Int32 → Int32 → Prop}
    (hJ28 : ∀ (v2 : Int32) (v3 : Int64) (v5 : Int32) (v7 : Int32), kj28 v2 v3 v5 v7 → X E l rm_X8_nextBuy yX8_nextBuy cX8_nextBuy 11 (some .int) noX (ZM E rm_X8_nextBuy (Qi n R (P00 I L Q))) 28 [(0, .ref 326), (1, .ref p1), (2, .int v2), (3, .long v3), (5, .int v5), (6, .int v6), (7, .int v7)] [] n I L R 0 0) (h : jn_X8_nextBuy_95 v2 v3 v5 v7 kj28) : X E l rm_X8_nextBuy yX8_nextBuy cX8_nextBuy 11 (some .int) noX (ZM E rm_X8_nextBuy (Qi n R (P00 I L Q))) 95 [(0, .ref 326), (1, .ref p1), (2, .int v2), (3, .long v3), (5, .int v5), (6, .int v6), (7, .int v7)] [] n I L R 0 0 := by
  unfold jn_X8_nextBuy_95 at h
  refine x_iinc (v := v7 + 1) (ls' := [(7, .int (v7 + 1)), (0, .ref 326), (1, .ref p1), (2, .int v2), (3, .long v3), (5, .int v5), (6, .int v6)]) dX8_nextBuy_95 rfl (congrArg (_ + ·) ki_1) (Nat.le_of_ble_eq_true rfl) rfl ?_
  refine x_goto dX8_nextBuy_98 (tgt := 28) rfl ?_
  refine x_ls (ls' := [(0, .ref 326), (1, .ref p1), (2, .int v2), (3, .long v3), (5, .int v5), (6, .int v6), (7, .int (v7 + 1))]) [1, 2, 3, 4, 5, 6, 0] rfl ?_
  exact hJ28 v2 v3 v5 (v7 + 1) h
def lp_X8_nextBuy_28 (p1 : Nat) (I : MI) (L : ML) (v6 : Int32) (kf101 : Int32 → Int64 → Int32 → Prop) : Nat → Int32 → Int64 → Int32 → Int32 → Prop
  | 0, _, _, _, _ => False
  | n + 1, v2, v3, v5, v7 =>
    (((I p1 0) ≤ v7 → kf101 v2 v3 v5) ∧ (¬ (I p1 0) ≤ v7 → ((3 ≤ v7 → kf101 v2 v3 v5) ∧ (¬ 3 ≤ v7 → (wp_X9_placeOf v6 v7 (fun x5 => ((wp_X8_gainOf I L x5 (fun x6 => ((vp_in v7 4 ∧ (((lg_cmp (x6 * v5.toInt64) (v3 * ((I (p1 + 1) (ix v7)).toInt64))) ≤ 0 → (jn_X8_nextBuy_95 v2 v3 v5 v7 (fun x9 x10 x11 x12 => (lp_X8_nextBuy_28 p1 I L v6 kf101 n x9 x10 x11 x12)))) ∧ (¬ (lg_cmp (x6 * v5.toInt64) (v3 * ((I (p1 + 1) (ix v7)).toInt64))) ≤ 0 → (vp_in v7 4 ∧ (jn_X8_nextBuy_95 x5 x6 (I (p1 + 1) (ix v7)) v7 (fun x14 x15 x16 x17 => (lp_X8_nextBuy_28 p1 I L v6 kf101 n x14 x15 x16 x17)))))))))))))))))
set_option maxRecDepth 20000 in
theorem lpt_X8_nextBuy_28 {E : Ev} {l : Launch} {n : Nat} {R : MR} {p1 : Nat} (hn : 336 ≤ n) (hG : GRx R) (hp1 : isPlan p1) {Q : Int32 → Prop} {v6 : Int32} {I : MI} {L : ML} {kf101 : Int32 → Int64 → Int32 → Prop}
    (hK101 : ∀ (v2 : Int32) (v3 : Int64) (v5 : Int32), kf101 v2 v3 v5 → X E l rm_X8_nextBuy yX8_nextBuy cX8_nextBuy 11 (some .int) noX (ZM E rm_X8_nextBuy (Qi n R (P00 I L Q))) 101 [(0, .ref 326), (1, .ref p1), (2, .int v2), (3, .long v3), (5, .int v5), (6, .int v6)] [] n I L R 0 0) : ∀ (N : Nat) (v2 : Int32) (v3 : Int64) (v5 : Int32) (v7 : Int32), lp_X8_nextBuy_28 p1 I L v6 kf101 N v2 v3 v5 v7 → X E l rm_X8_nextBuy yX8_nextBuy cX8_nextBuy 11 (some .int) noX (ZM E rm_X8_nextBuy (Qi n R (P00 I L Q))) 28 [(0, .ref 326), (1, .ref p1), (2, .int v2), (3, .long v3), (5, .int v5), (6, .int v6), (7, .int v7)] [] n I L R 0 0 := by
  intro N
  induction N with
  | zero => intro v2 v3 v5 v7 h; exact False.elim h
  | succ N ih =>
    intro v2 v3 v5 v7 h
    unfold lp_X8_nextBuy_28 at h
    refine x_iload dX8_nextBuy_28 rfl ?_
    refine x_aload_n dX8_nextBuy_30 rfl ?_
    refine x_geti dX8_nextBuy_31 fk_RX8_77 (Pn_k hp1 hn 0 rfl) (Pn_s0 hp1) ?_
    refine x_icmp_ge dX8_nextBuy_34 (tgt := 101) rfl ⟨fun c3 => ?_, fun c3 => ?_⟩
    · have h := h.1 c3
      refine x_ls (ls' := [(0, .ref 326), (1, .ref p1), (2, .int v2), (3, .long v3), (5, .int v5), (6, .int v6)]) [0, 1, 2, 3, 4, 5] rfl ?_
      exact hK101 v2 v3 v5 h
    · have h := h.2 c3
      refine x_iload dX8_nextBuy_37 rfl ?_
      refine x_iconst (v := 3) dX8_nextBuy_39 ki_3 ?_
      refine x_icmp_ge dX8_nextBuy_40 (tgt := 101) rfl ⟨fun c4 => ?_, fun c4 => ?_⟩
      · have h := h.1 c4
        refine x_ls (ls' := [(0, .ref 326), (1, .ref p1), (2, .int v2), (3, .long v3), (5, .int v5), (6, .int v6)]) [0, 1, 2, 3, 4, 5] rfl ?_
        exact hK101 v2 v3 v5 h
      · have h := h.2 c4
        refine x_iload dX8_nextBuy_43 rfl ?_
        refine x_iload dX8_nextBuy_45 rfl ?_
        refine x_cNi00 [.int v6, .int v7] (mt_X9_placeOf hn hG h) dX8_nextBuy_47 lk_RX8_80 rfl rfl (Nat.le_of_ble_eq_true rfl) (Rf_of rfl) (fun x5 h => ?_)
        refine x_istore (ls' := [(8, .int x5), (0, .ref 326), (1, .ref p1), (2, .int v2), (3, .long v3), (5, .int v5), (6, .int v6), (7, .int v7)]) dX8_nextBuy_50 (Nat.le_of_ble_eq_true rfl) rfl ?_
        refine x_aload_n dX8_nextBuy_52 rfl ?_
        refine x_iload dX8_nextBuy_53 rfl ?_
        refine x_cVl00 [.int x5] (mt_X8_gainOf hn hG h) dX8_nextBuy_55 lk_RX8_106 (kl rfl hn) sh_326 rfl rfl (Nat.le_of_ble_eq_true rfl) (Rf_of rfl) (fun x6 h => ?_)
        refine x_lstore (ls' := [(9, .long x6), (8, .int x5), (0, .ref 326), (1, .ref p1), (2, .int v2), (3, .long v3), (5, .int v5), (6, .int v6), (7, .int v7)]) dX8_nextBuy_58 (Nat.le_of_ble_eq_true rfl) rfl ?_
        refine x_lload dX8_nextBuy_60 rfl ?_
        refine x_iload dX8_nextBuy_62 rfl ?_
        refine x_i2l dX8_nextBuy_64 ?_
        refine x_lmul dX8_nextBuy_65 ?_
        refine x_lload_n dX8_nextBuy_66 rfl ?_
        refine x_aload_n dX8_nextBuy_67 rfl ?_
        refine x_getr (j := p1 + 1) dX8_nextBuy_68 fk_RX8_99 (Pn_k hp1 hn 0 rfl) (Pn_s0 hp1) (Pn_r5 hG hp1) ?_
        refine x_iload dX8_nextBuy_71 rfl ?_
        obtain ⟨b7, h⟩ := h
        refine x_iaload dX8_nextBuy_73 (Pn_k hp1 hn 1 rfl) (Pn_s1 hp1) b7 ?_
        refine x_i2l dX8_nextBuy_74 ?_
        refine x_lmul dX8_nextBuy_75 ?_
        refine x_lcmp dX8_nextBuy_76 ?_
        refine x_if_le dX8_nextBuy_77 (tgt := 95) rfl ⟨fun c8 => ?_, fun c8 => ?_⟩
        · have h := h.1 c8
          refine x_ls (ls' := [(0, .ref 326), (1, .ref p1), (2, .int v2), (3, .long v3), (5, .int v5), (6, .int v6), (7, .int v7)]) [2, 3, 4, 5, 6, 7, 8] rfl ?_
          refine jnt_X8_nextBuy_95 hn hG hp1 (fun x9 x10 x11 x12 h => ?_) h
          exact ih x9 x10 x11 x12 h
        · have h := h.2 c8
          refine x_iload dX8_nextBuy_80 rfl ?_
          refine x_istore_n (ls' := [(2, .int x5), (9, .long x6), (8, .int x5), (0, .ref 326), (1, .ref p1), (3, .long v3), (5, .int v5), (6, .int v6), (7, .int v7)]) dX8_nextBuy_82 (Nat.le_of_ble_eq_true rfl) rfl ?_
          refine x_lload dX8_nextBuy_83 rfl ?_
          refine x_lstore_n (ls' := [(3, .long x6), (2, .int x5), (9, .long x6), (8, .int x5), (0, .ref 326), (1, .ref p1), (5, .int v5), (6, .int v6), (7, .int v7)]) dX8_nextBuy_85 (Nat.le_of_ble_eq_true rfl) rfl ?_
          refine x_aload_n dX8_nextBuy_86 rfl ?_
          refine x_getr (j := p1 + 1) dX8_nextBuy_87 fk_RX8_99 (Pn_k hp1 hn 0 rfl) (Pn_s0 hp1) (Pn_r5 hG hp1) ?_
          refine x_iload dX8_nextBuy_90 rfl ?_
          obtain ⟨b13, h⟩ := h
          refine x_iaload dX8_nextBuy_92 (Pn_k hp1 hn 1 rfl) (Pn_s1 hp1) b13 ?_
          refine x_istore (ls' := [(5, .int (I (p1 + 1) (ix v7))), (3, .long x6), (2, .int x5), (9, .long x6), (8, .int x5), (0, .ref 326), (1, .ref p1), (6, .int v6), (7, .int v7)]) dX8_nextBuy_93 (Nat.le_of_ble_eq_true rfl) rfl ?_
          refine x_ls (ls' := [(0, .ref 326), (1, .ref p1), (2, .int x5), (3, .long x6), (5, .int (I (p1 + 1) (ix v7))), (6, .int v6), (7, .int v7)]) [5, 6, 2, 1, 0, 7, 8] rfl ?_
          refine jnt_X8_nextBuy_95 hn hG hp1 (fun x14 x15 x16 x17 h => ?_) h
          exact ih x14 x15 x16 x17 h
def jn_X8_nextBuy_101 (v2 : Int32) (v3 : Int64) (v5 : Int32) (v6 : Int32) (kj10 : Int32 → Int64 → Int32 → Int32 → Prop) : Prop :=
    kj10 v2 v3 v5 (v6 + 1)
set_option maxRecDepth 20000 in
theorem jnt_X8_nextBuy_101 {E : Ev} {l : Launch} {n : Nat} {R : MR} {p1 : Nat} (hn : 336 ≤ n) (hG : GRx R) (hp1 : isPlan p1) {Q : Int32 → Prop} {I : MI} {L : ML} {v2 : Int32} {v3 : Int64} {v5 : Int32} {v6 : Int32} {kj10 : Int32 → Int64 → Int32 → Int32 → Prop}
    (hJ10 : ∀ (v2 : Int32) (v3 : Int64) (v5 : Int32) (v6 : Int32), kj10 v2 v3 v5 v6 → X E l rm_X8_nextBuy yX8_nextBuy cX8_nextBuy 11 (some .int) noX (ZM E rm_X8_nextBuy (Qi n R (P00 I L Q))) 10 [(0, .ref 326), (1, .ref p1), (2, .int v2), (3, .long v3), (5, .int v5), (6, .int v6)] [] n I L R 0 0) (h : jn_X8_nextBuy_101 v2 v3 v5 v6 kj10) : X E l rm_X8_nextBuy yX8_nextBuy cX8_nextBuy 11 (some .int) noX (ZM E rm_X8_nextBuy (Qi n R (P00 I L Q))) 101 [(0, .ref 326), (1, .ref p1), (2, .int v2), (3, .long v3), (5, .int v5), (6, .int v6)] [] n I L R 0 0 := by
  unfold jn_X8_nextBuy_101 at h
  refine x_iinc (v := v6 + 1) (ls' := [(6, .int (v6 + 1)), (0, .ref 326), (1, .ref p1), (2, .int v2), (3, .long v3), (5, .int v5)]) dX8_nextBuy_101 rfl (congrArg (_ + ·) ki_1) (Nat.le_of_ble_eq_true rfl) rfl ?_
  refine x_goto dX8_nextBuy_104 (tgt := 10) rfl ?_
  refine x_ls (ls' := [(0, .ref 326), (1, .ref p1), (2, .int v2), (3, .long v3), (5, .int v5), (6, .int (v6 + 1))]) [1, 2, 3, 4, 5, 0] rfl ?_
  exact hJ10 v2 v3 v5 (v6 + 1) h
def lp_X8_nextBuy_10 (p1 : Nat) (I : MI) (L : ML) (Q : Int32 → Prop) : Nat → Int32 → Int64 → Int32 → Int32 → Prop
  | 0, _, _, _, _ => False
  | n + 1, v2, v3, v5, v6 =>
    (((I p1 1) ≤ v6 → Q v2) ∧ (¬ (I p1 1) ≤ v6 → ((3 ≤ v6 → Q v2) ∧ (¬ 3 ≤ v6 → (∃ N18, lp_X8_nextBuy_28 p1 I L v6 (fun x19 x20 x21 => (jn_X8_nextBuy_101 x19 x20 x21 v6 (fun x22 x23 x24 x25 => (lp_X8_nextBuy_10 p1 I L Q n x22 x23 x24 x25)))) N18 v2 v3 v5 0)))))
set_option maxRecDepth 20000 in
theorem lpt_X8_nextBuy_10 {E : Ev} {l : Launch} {n : Nat} {R : MR} {p1 : Nat} (hn : 336 ≤ n) (hG : GRx R) (hp1 : isPlan p1) {Q : Int32 → Prop} {I : MI} {L : ML} : ∀ (N : Nat) (v2 : Int32) (v3 : Int64) (v5 : Int32) (v6 : Int32), lp_X8_nextBuy_10 p1 I L Q N v2 v3 v5 v6 → X E l rm_X8_nextBuy yX8_nextBuy cX8_nextBuy 11 (some .int) noX (ZM E rm_X8_nextBuy (Qi n R (P00 I L Q))) 10 [(0, .ref 326), (1, .ref p1), (2, .int v2), (3, .long v3), (5, .int v5), (6, .int v6)] [] n I L R 0 0 := by
  intro N
  induction N with
  | zero => intro v2 v3 v5 v6 h; exact False.elim h
  | succ N ih =>
    intro v2 v3 v5 v6 h
    unfold lp_X8_nextBuy_10 at h
    refine x_iload dX8_nextBuy_10 rfl ?_
    refine x_aload_n dX8_nextBuy_12 rfl ?_
    refine x_geti dX8_nextBuy_13 fk_RX8_74 (Pn_k hp1 hn 0 rfl) (Pn_s0 hp1) ?_
    refine x_icmp_ge dX8_nextBuy_16 (tgt := 107) rfl ⟨fun c1 => ?_, fun c1 => ?_⟩
    · have h := h.1 c1
      refine x_iload_n dX8_nextBuy_107 rfl ?_
      exact x_ireturn dX8_nextBuy_108 ⟨_, rfl, rfl, rfl, rfl, rfl, h⟩
    · have h := h.2 c1
      refine x_iload dX8_nextBuy_19 rfl ?_
      refine x_iconst (v := 3) dX8_nextBuy_21 ki_3 ?_
      refine x_icmp_ge dX8_nextBuy_22 (tgt := 107) rfl ⟨fun c2 => ?_, fun c2 => ?_⟩
      · have h := h.1 c2
        refine x_iload_n dX8_nextBuy_107 rfl ?_
        exact x_ireturn dX8_nextBuy_108 ⟨_, rfl, rfl, rfl, rfl, rfl, h⟩
      · have h := h.2 c2
        refine x_iconst (v := 0) dX8_nextBuy_25 ki_0 ?_
        refine x_istore (ls' := [(7, .int 0), (0, .ref 326), (1, .ref p1), (2, .int v2), (3, .long v3), (5, .int v5), (6, .int v6)]) dX8_nextBuy_26 (Nat.le_of_ble_eq_true rfl) rfl ?_
        refine x_ls (ls' := [(0, .ref 326), (1, .ref p1), (2, .int v2), (3, .long v3), (5, .int v5), (6, .int v6), (7, .int 0)]) [1, 2, 3, 4, 5, 6, 0] rfl ?_
        obtain ⟨N18, h⟩ := h
        refine lpt_X8_nextBuy_28 hn hG hp1 (fun x19 x20 x21 h => ?_) N18 v2 v3 v5 0 h
        refine jnt_X8_nextBuy_101 hn hG hp1 (fun x22 x23 x24 x25 h => ?_) h
        exact ih x22 x23 x24 x25 h
def wp_X8_nextBuy (p1 : Nat) (I : MI) (L : ML) (Q : Int32 → Prop) : Prop :=
    (∃ N26, lp_X8_nextBuy_10 p1 I L Q N26 (-1) 0 1 0)
set_option maxRecDepth 20000 in
theorem mt_X8_nextBuy {E : Ev} {l : Launch} {n : Nat} {R : MR} {p1 : Nat} (hn : 336 ≤ n) (hG : GRx R) (hp1 : isPlan p1) {I : MI} {L : ML} {Q : Int32 → Prop} (h : wp_X8_nextBuy p1 I L Q) : MX E l rm_X8_nextBuy yX8_nextBuy cX8_nextBuy 11 (some .int) [.ref 326, .ref p1] n I L R (Qi n R (P00 I L Q)) := by
  refine MX_of (ls := [(0, .ref 326), (1, .ref p1)]) (by decide) (Nat.le_of_ble_eq_true rfl) rfl ?_
  unfold wp_X8_nextBuy at h
  refine x_iconst (v := (-1)) dX8_nextBuy_0 ki_m1 ?_
  refine x_istore_n (ls' := [(2, .int (-1)), (0, .ref 326), (1, .ref p1)]) dX8_nextBuy_1 (Nat.le_of_ble_eq_true rfl) rfl ?_
  refine x_lconst (v := 0) dX8_nextBuy_2 rfl ?_
  refine x_lstore_n (ls' := [(3, .long 0), (2, .int (-1)), (0, .ref 326), (1, .ref p1)]) dX8_nextBuy_3 (Nat.le_of_ble_eq_true rfl) rfl ?_
  refine x_iconst (v := 1) dX8_nextBuy_4 ki_1 ?_
  refine x_istore (ls' := [(5, .int 1), (3, .long 0), (2, .int (-1)), (0, .ref 326), (1, .ref p1)]) dX8_nextBuy_5 (Nat.le_of_ble_eq_true rfl) rfl ?_
  refine x_iconst (v := 0) dX8_nextBuy_7 ki_0 ?_
  refine x_istore (ls' := [(6, .int 0), (5, .int 1), (3, .long 0), (2, .int (-1)), (0, .ref 326), (1, .ref p1)]) dX8_nextBuy_8 (Nat.le_of_ble_eq_true rfl) rfl ?_
  refine x_ls (ls' := [(0, .ref 326), (1, .ref p1), (2, .int (-1)), (3, .long 0), (5, .int 1), (6, .int 0)]) [4, 5, 3, 2, 1, 0] rfl ?_
  obtain ⟨N26, h⟩ := h
  exact lpt_X8_nextBuy_10 hn hG hp1  N26 (-1) 0 1 0 h
abbrev rm_X8_learnBuys : Room := { frames := 3, cells := 0, slots := 0, locals := 75 }
def lp_X8_learnBuys_15 (kf34 : MI → Prop) : Nat → Int32 → MI → Prop
  | 0, _, _ => False
  | n + 1, v2, I =>
    ((16 ≤ v2 → kf34 I) ∧ (¬ 16 ≤ v2 → (vp_in v2 16 ∧ (∀ I6, I6 = u2 I 332 (ix v2) 0 → (lp_X8_learnBuys_15 kf34 n (v2 + 1) I6)))))
set_option maxRecDepth 20000 in
theorem lpt_X8_learnBuys_15 {E : Ev} {l : Launch} {n : Nat} {R : MR} {p1 : Nat} (hn : 336 ≤ n) (hG : GRx R) (hp1 : isPlan p1) {I0 : MI} {L0 : ML} {Q : MI → ML → Prop} {L : ML} {kf34 : MI → Prop}
    (hK34 : ∀ (I : MI), kf34 I → X E l rm_X8_learnBuys yX8_learnBuys cX8_learnBuys 5 none noX (ZM E rm_X8_learnBuys (Qv n R (V11 I0 L0 Q))) 34 [(0, .ref 326), (1, .ref p1)] [] n I L R 0 0) : ∀ (N : Nat) (v2 : Int32) (I : MI), lp_X8_learnBuys_15 kf34 N v2 I → X E l rm_X8_learnBuys yX8_learnBuys cX8_learnBuys 5 none noX (ZM E rm_X8_learnBuys (Qv n R (V11 I0 L0 Q))) 15 [(0, .ref 326), (1, .ref p1), (2, .int v2)] [] n I L R 0 0 := by
  intro N
  induction N with
  | zero => intro v2 I h; exact False.elim h
  | succ N ih =>
    intro v2 I h
    unfold lp_X8_learnBuys_15 at h
    refine x_iload_n dX8_learnBuys_15 rfl ?_
    refine x_bipush (v := 16) dX8_learnBuys_16 kb_16 ?_
    refine x_icmp_ge dX8_learnBuys_18 (tgt := 34) rfl ⟨fun c4 => ?_, fun c4 => ?_⟩
    · have h := h.1 c4
      refine x_ls (ls' := [(0, .ref 326), (1, .ref p1)]) [0, 1] rfl ?_
      exact hK34 I h
    · have h := h.2 c4
      refine x_aload_n dX8_learnBuys_21 rfl ?_
      refine x_getr (j := 332) dX8_learnBuys_22 fk_RX8_32 (kl rfl hn) sh_326 (rt_326_6 hG) ?_
      refine x_iload_n dX8_learnBuys_25 rfl ?_
      refine x_iconst (v := 0) dX8_learnBuys_26 ki_0 ?_
      obtain ⟨b5, h⟩ := h
      refine x_iastore dX8_learnBuys_27 (kl rfl hn) sh_332 b5 (fun I6 eI6 => ?_)
      have h := h I6 eI6
      refine x_iinc (v := v2 + 1) (ls' := [(2, .int (v2 + 1)), (0, .ref 326), (1, .ref p1)]) dX8_learnBuys_28 rfl (congrArg (_ + ·) ki_1) (Nat.le_of_ble_eq_true rfl) rfl ?_
      refine x_goto dX8_learnBuys_31 (tgt := 15) rfl ?_
      refine x_ls (ls' := [(0, .ref 326), (1, .ref p1), (2, .int (v2 + 1))]) [1, 2, 0] rfl ?_
      exact ih (v2 + 1) I6 h
def lp_X8_learnBuys_43 (p1 : Nat) (L : ML) (Q : MI → ML → Prop) (kf62 : MI → Prop) : Nat → Int32 → Int32 → MI → Prop
  | 0, _, _, _ => False
  | n + 1, v2, v3, I =>
    ((72 ≤ v3 → (∀ I11, I11 = u2 I 326 11 1 → Q I11 L)) ∧ (¬ 72 ≤ v3 → (wp_X8_nextBuy p1 I L (fun x12 => (((¬ x12 = (-1) → (vp_in x12 16 ∧ (vp_in x12 16 ∧ (∀ I16, I16 = u2 I 332 (ix x12) ((I 332 (ix x12)) + 1) → (wp_X9_partOf x12 (fun x17 => ((vp_in x17 4 ∧ (vp_in v3 72 ∧ (∀ I20, I20 = u2 I16 329 (ix v3) x12 → (vp_in x12 16 ∧ (vp_in v3 72 ∧ (∀ I23, I23 = u2 I20 330 (ix v3) (I20 332 (ix x12)) → (vp_in v3 72 ∧ (∀ I25, I25 = u2 I23 331 (ix v3) (v2 + (I16 (p1 + 1) (ix x17))) → (∀ I26, I26 = u2 I25 326 5 (v3 + 1) → (lp_X8_learnBuys_43 p1 L Q kf62 n (v2 + (I16 (p1 + 1) (ix x17))) (v3 + 1) I26))))))))))))))))) ∧ (x12 = (-1) → kf62 I)))))))
set_option maxRecDepth 20000 in
theorem lpt_X8_learnBuys_43 {E : Ev} {l : Launch} {n : Nat} {R : MR} {p1 : Nat} (hn : 336 ≤ n) (hG : GRx R) (hp1 : isPlan p1) {I0 : MI} {L0 : ML} {Q : MI → ML → Prop} {L : ML} {kf62 : MI → Prop}
    (hK62 : ∀ (I : MI), kf62 I → X E l rm_X8_learnBuys yX8_learnBuys cX8_learnBuys 5 none noX (ZM E rm_X8_learnBuys (Qv n R (V11 I0 L0 Q))) 62 [(0, .ref 326)] [] n I L R 0 0) : ∀ (N : Nat) (v2 : Int32) (v3 : Int32) (I : MI), lp_X8_learnBuys_43 p1 L Q kf62 N v2 v3 I → X E l rm_X8_learnBuys yX8_learnBuys cX8_learnBuys 5 none noX (ZM E rm_X8_learnBuys (Qv n R (V11 I0 L0 Q))) 43 [(0, .ref 326), (1, .ref p1), (2, .int v2), (3, .int v3)] [] n I L R 0 0 := by
  intro N
  induction N with
  | zero => intro v2 v3 I h; exact False.elim h
  | succ N ih =>
    intro v2 v3 I h
    unfold lp_X8_learnBuys_43 at h
    refine x_iload_n dX8_learnBuys_43 rfl ?_
    refine x_bipush (v := 72) dX8_learnBuys_44 kb_72 ?_
    refine x_icmp_ge dX8_learnBuys_46 (tgt := 130) rfl ⟨fun c10 => ?_, fun c10 => ?_⟩
    · have h := h.1 c10
      refine x_aload_n dX8_learnBuys_130 rfl ?_
      refine x_iconst (v := 1) dX8_learnBuys_131 ki_1 ?_
      refine x_puti dX8_learnBuys_132 fk_RX8_48 fw_6_11 rfl rfl (kl rfl hn) sh_326 (fun I11 eI11 => ?_)
      have h := h I11 eI11
      exact x_return dX8_learnBuys_135 ⟨rfl, rfl, rfl, h⟩
    · have h := h.2 c10
      refine x_aload_n dX8_learnBuys_49 rfl ?_
      refine x_aload_n dX8_learnBuys_50 rfl ?_
      refine x_cVi00 [.ref p1] (mt_X8_nextBuy hn hG hp1 h) dX8_learnBuys_51 lk_RX8_95 (kl rfl hn) sh_326 rfl rfl (Nat.le_of_ble_eq_true rfl) (Rf_of rfl) (fun x12 h => ?_)
      refine x_istore (ls' := [(4, .int x12), (0, .ref 326), (1, .ref p1), (2, .int v2), (3, .int v3)]) dX8_learnBuys_54 (Nat.le_of_ble_eq_true rfl) rfl ?_
      refine x_iload dX8_learnBuys_56 rfl ?_
      refine x_iconst (v := (-1)) dX8_learnBuys_58 ki_m1 ?_
      refine x_icmp_ne dX8_learnBuys_59 (tgt := 65) rfl ⟨fun c13 => ?_, fun c13 => ?_⟩
      · have h := h.1 c13
        refine x_aload_n dX8_learnBuys_65 rfl ?_
        refine x_getr (j := 332) dX8_learnBuys_66 fk_RX8_32 (kl rfl hn) sh_326 (rt_326_6 hG) ?_
        refine x_iload dX8_learnBuys_69 rfl ?_
        refine x_dup2 dX8_learnBuys_71 rfl rfl ?_
        obtain ⟨b14, h⟩ := h
        refine x_iaload dX8_learnBuys_72 (kl rfl hn) sh_332 b14 ?_
        refine x_iconst (v := 1) dX8_learnBuys_73 ki_1 ?_
        refine x_iadd dX8_learnBuys_74 ?_
        obtain ⟨b15, h⟩ := h
        refine x_iastore dX8_learnBuys_75 (kl rfl hn) sh_332 b15 (fun I16 eI16 => ?_)
        have h := h I16 eI16
        refine x_iload_n dX8_learnBuys_76 rfl ?_
        refine x_aload_n dX8_learnBuys_77 rfl ?_
        refine x_getr (j := p1 + 1) dX8_learnBuys_78 fk_RX8_99 (Pn_k hp1 hn 0 rfl) (Pn_s0 hp1) (Pn_r5 hG hp1) ?_
        refine x_iload dX8_learnBuys_81 rfl ?_
        refine x_cNi00 [.int x12] (mt_X9_partOf hn hG h) dX8_learnBuys_83 lk_RX8_102 rfl rfl (Nat.le_of_ble_eq_true rfl) (Rf_of rfl) (fun x17 h => ?_)
        obtain ⟨b18, h⟩ := h
        refine x_iaload dX8_learnBuys_86 (Pn_k hp1 hn 1 rfl) (Pn_s1 hp1) b18 ?_
        refine x_iadd dX8_learnBuys_87 ?_
        refine x_istore_n (ls' := [(2, .int (v2 + (I16 (p1 + 1) (ix x17)))), (4, .int x12), (0, .ref 326), (1, .ref p1), (3, .int v3)]) dX8_learnBuys_88 (Nat.le_of_ble_eq_true rfl) rfl ?_
        refine x_aload_n dX8_learnBuys_89 rfl ?_
        refine x_getr (j := 329) dX8_learnBuys_90 fk_RX8_18 (kl rfl hn) sh_326 (rt_326_2 hG) ?_
        refine x_iload_n dX8_learnBuys_93 rfl ?_
        refine x_iload dX8_learnBuys_94 rfl ?_
        obtain ⟨b19, h⟩ := h
        refine x_iastore dX8_learnBuys_96 (kl rfl hn) sh_329 b19 (fun I20 eI20 => ?_)
        have h := h I20 eI20
        refine x_aload_n dX8_learnBuys_97 rfl ?_
        refine x_getr (j := 330) dX8_learnBuys_98 fk_RX8_22 (kl rfl hn) sh_326 (rt_326_3 hG) ?_
        refine x_iload_n dX8_learnBuys_101 rfl ?_
        refine x_aload_n dX8_learnBuys_102 rfl ?_
        refine x_getr (j := 332) dX8_learnBuys_103 fk_RX8_32 (kl rfl hn) sh_326 (rt_326_6 hG) ?_
        refine x_iload dX8_learnBuys_106 rfl ?_
        obtain ⟨b21, h⟩ := h
        refine x_iaload dX8_learnBuys_108 (kl rfl hn) sh_332 b21 ?_
        obtain ⟨b22, h⟩ := h
        refine x_iastore dX8_learnBuys_109 (kl rfl hn) sh_330 b22 (fun I23 eI23 => ?_)
        have h := h I23 eI23
        refine x_aload_n dX8_learnBuys_110 rfl ?_
        refine x_getr (j := 331) dX8_learnBuys_111 fk_RX8_25 (kl rfl hn) sh_326 (rt_326_4 hG) ?_
        refine x_iload_n dX8_learnBuys_114 rfl ?_
        refine x_iload_n dX8_learnBuys_115 rfl ?_
        obtain ⟨b24, h⟩ := h
        refine x_iastore dX8_learnBuys_116 (kl rfl hn) sh_331 b24 (fun I25 eI25 => ?_)
        have h := h I25 eI25
        refine x_aload_n dX8_learnBuys_117 rfl ?_
        refine x_iload_n dX8_learnBuys_118 rfl ?_
        refine x_iconst (v := 1) dX8_learnBuys_119 ki_1 ?_
        refine x_iadd dX8_learnBuys_120 ?_
        refine x_puti dX8_learnBuys_121 fk_RX8_28 fw_6_5 (vp_nar_int _) rfl (kl rfl hn) sh_326 (fun I26 eI26 => ?_)
        have h := h I26 eI26
        refine x_iinc (v := v3 + 1) (ls' := [(3, .int (v3 + 1)), (2, .int (v2 + (I16 (p1 + 1) (ix x17)))), (4, .int x12), (0, .ref 326), (1, .ref p1)]) dX8_learnBuys_124 rfl (congrArg (_ + ·) ki_1) (Nat.le_of_ble_eq_true rfl) rfl ?_
        refine x_goto dX8_learnBuys_127 (tgt := 43) rfl ?_
        refine x_ls (ls' := [(0, .ref 326), (1, .ref p1), (2, .int (v2 + (I16 (p1 + 1) (ix x17)))), (3, .int (v3 + 1))]) [3, 4, 1, 0] rfl ?_
        exact ih (v2 + (I16 (p1 + 1) (ix x17))) (v3 + 1) I26 h
      · have h := h.2 c13
        refine x_ls (ls' := [(0, .ref 326)]) [1] rfl ?_
        exact hK62 I h
def wp_X8_learnBuys (p1 : Nat) (I : MI) (L : ML) (Q : MI → ML → Prop) : Prop :=
    (wp_X8_learnLack p1 I L (fun I1 L2 => ((((I1 326 11) = 0 → (∃ N7, lp_X8_learnBuys_15 (fun I8 => (∀ I9, I9 = u2 I8 326 5 0 → (∃ N27, lp_X8_learnBuys_43 p1 L2 Q (fun I28 => (∀ I29, I29 = u2 I28 326 11 1 → Q I29 L2)) N27 0 0 I9))) N7 0 I1)) ∧ (¬ (I1 326 11) = 0 → Q I1 L2)))))
set_option maxRecDepth 20000 in
theorem mt_X8_learnBuys {E : Ev} {l : Launch} {n : Nat} {R : MR} {p1 : Nat} (hn : 336 ≤ n) (hG : GRx R) (hp1 : isPlan p1) {I : MI} {L : ML} {Q : MI → ML → Prop} (h : wp_X8_learnBuys p1 I L Q) : MX E l rm_X8_learnBuys yX8_learnBuys cX8_learnBuys 5 none [.ref 326, .ref p1] n I L R (Qv n R (V11 I L Q)) := by
  refine MX_of (ls := [(0, .ref 326), (1, .ref p1)]) (by decide) (Nat.le_of_ble_eq_true rfl) rfl ?_
  unfold wp_X8_learnBuys at h
  refine x_aload_n dX8_learnBuys_0 rfl ?_
  refine x_aload_n dX8_learnBuys_1 rfl ?_
  refine x_cVv11 [.ref p1] (mt_X8_learnLack hn hG hp1 h) dX8_learnBuys_2 lk_RX8_91 (kl rfl hn) sh_326 rfl rfl (Nat.le_of_ble_eq_true rfl) (Rf_of rfl) (fun I1 L2 h => ?_)
  refine x_aload_n dX8_learnBuys_5 rfl ?_
  refine x_geti dX8_learnBuys_6 fk_RX8_48 (kl rfl hn) sh_326 ?_
  refine x_if_eq dX8_learnBuys_9 (tgt := 13) rfl ⟨fun c3 => ?_, fun c3 => ?_⟩
  · have h := h.1 c3
    refine x_iconst (v := 0) dX8_learnBuys_13 ki_0 ?_
    refine x_istore_n (ls' := [(2, .int 0), (0, .ref 326), (1, .ref p1)]) dX8_learnBuys_14 (Nat.le_of_ble_eq_true rfl) rfl ?_
    refine x_ls (ls' := [(0, .ref 326), (1, .ref p1), (2, .int 0)]) [1, 2, 0] rfl ?_
    obtain ⟨N7, h⟩ := h
    refine lpt_X8_learnBuys_15 hn hG hp1 (fun I8 h => ?_) N7 0 I1 h
    refine x_aload_n dX8_learnBuys_34 rfl ?_
    refine x_iconst (v := 0) dX8_learnBuys_35 ki_0 ?_
    refine x_puti dX8_learnBuys_36 fk_RX8_28 fw_6_5 (vp_nar_int _) rfl (kl rfl hn) sh_326 (fun I9 eI9 => ?_)
    have h := h I9 eI9
    refine x_iconst (v := 0) dX8_learnBuys_39 ki_0 ?_
    refine x_istore_n (ls' := [(2, .int 0), (0, .ref 326), (1, .ref p1)]) dX8_learnBuys_40 (Nat.le_of_ble_eq_true rfl) rfl ?_
    refine x_iconst (v := 0) dX8_learnBuys_41 ki_0 ?_
    refine x_istore_n (ls' := [(3, .int 0), (2, .int 0), (0, .ref 326), (1, .ref p1)]) dX8_learnBuys_42 (Nat.le_of_ble_eq_true rfl) rfl ?_
    refine x_ls (ls' := [(0, .ref 326), (1, .ref p1), (2, .int 0), (3, .int 0)]) [2, 3, 1, 0] rfl ?_
    obtain ⟨N27, h⟩ := h
    refine lpt_X8_learnBuys_43 hn hG hp1 (fun I28 h => ?_) N27 0 0 I9 h
    refine x_goto dX8_learnBuys_62 (tgt := 130) rfl ?_
    refine x_aload_n dX8_learnBuys_130 rfl ?_
    refine x_iconst (v := 1) dX8_learnBuys_131 ki_1 ?_
    refine x_puti dX8_learnBuys_132 fk_RX8_48 fw_6_11 rfl rfl (kl rfl hn) sh_326 (fun I29 eI29 => ?_)
    have h := h I29 eI29
    exact x_return dX8_learnBuys_135 ⟨rfl, rfl, rfl, h⟩
  · have h := h.2 c3
    exact x_return dX8_learnBuys_12 ⟨rfl, rfl, rfl, h⟩
abbrev rm_X8_leastSure : Room := { frames := 1, cells := 0, slots := 0, locals := 23 }
def lp_X8_leastSure_5 (L : ML) (v1 : Int32) (v2 : Int32) (Q : Int32 → Prop) : Nat → Int64 → Int32 → Prop
  | 0, _, _ => False
  | n + 1, v3, v5 =>
    ((9 < v5 → Q 9) ∧ (¬ 9 < v5 → (wp_X8_outOf L v1 v5 (fun x2 => ((((lg_cmp ((v3 + x2) * 100) (429981696 * v2.toInt64)) < 0 → (lp_X8_leastSure_5 L v1 v2 Q n (v3 + x2) (v5 + 1))) ∧ (¬ (lg_cmp ((v3 + x2) * 100) (429981696 * v2.toInt64)) < 0 → Q v5)))))))
set_option maxRecDepth 20000 in
theorem lpt_X8_leastSure_5 {E : Ev} {l : Launch} {n : Nat} {R : MR} (hn : 336 ≤ n) (hG : GRx R) {Q : Int32 → Prop} {v1 : Int32} {v2 : Int32} {I : MI} {L : ML} : ∀ (N : Nat) (v3 : Int64) (v5 : Int32), lp_X8_leastSure_5 L v1 v2 Q N v3 v5 → X E l rm_X8_leastSure yX8_leastSure cX8_leastSure 6 (some .int) noX (ZM E rm_X8_leastSure (Qi n R (P00 I L Q))) 5 [(0, .ref 326), (1, .int v1), (2, .int v2), (3, .long v3), (5, .int v5)] [] n I L R 0 0 := by
  intro N
  induction N with
  | zero => intro v3 v5 h; exact False.elim h
  | succ N ih =>
    intro v3 v5 h
    unfold lp_X8_leastSure_5 at h
    refine x_iload dX8_leastSure_5 rfl ?_
    refine x_bipush (v := 9) dX8_leastSure_7 kb_9 ?_
    refine x_icmp_gt dX8_leastSure_9 (tgt := 46) rfl ⟨fun c1 => ?_, fun c1 => ?_⟩
    · have h := h.1 c1
      refine x_bipush (v := 9) dX8_leastSure_46 kb_9 ?_
      exact x_ireturn dX8_leastSure_48 ⟨_, rfl, rfl, rfl, rfl, rfl, h⟩
    · have h := h.2 c1
      refine x_lload_n dX8_leastSure_12 rfl ?_
      refine x_aload_n dX8_leastSure_13 rfl ?_
      refine x_iload_n dX8_leastSure_14 rfl ?_
      refine x_iload dX8_leastSure_15 rfl ?_
      refine x_cVl00 [.int v1, .int v5] (mt_X8_outOf hn hG h) dX8_leastSure_17 lk_RX8_70 (kl rfl hn) sh_326 rfl rfl (Nat.le_of_ble_eq_true rfl) (Rf_of rfl) (fun x2 h => ?_)
      refine x_ladd dX8_leastSure_20 ?_
      refine x_lstore_n (ls' := [(3, .long (v3 + x2)), (0, .ref 326), (1, .int v1), (2, .int v2), (5, .int v5)]) dX8_leastSure_21 (Nat.le_of_ble_eq_true rfl) rfl ?_
      refine x_lload_n dX8_leastSure_22 rfl ?_
      refine x_ldc2 (v := 100) dX8_leastSure_23 kc_RX8_87 ?_
      refine x_lmul dX8_leastSure_26 ?_
      refine x_ldc2 (v := 429981696) dX8_leastSure_27 kc_RX8_89 ?_
      refine x_iload_n dX8_leastSure_30 rfl ?_
      refine x_i2l dX8_leastSure_31 ?_
      refine x_lmul dX8_leastSure_32 ?_
      refine x_lcmp dX8_leastSure_33 ?_
      refine x_if_lt dX8_leastSure_34 (tgt := 40) rfl ⟨fun c3 => ?_, fun c3 => ?_⟩
      · have h := h.1 c3
        refine x_iinc (v := v5 + 1) (ls' := [(5, .int (v5 + 1)), (3, .long (v3 + x2)), (0, .ref 326), (1, .int v1), (2, .int v2)]) dX8_leastSure_40 rfl (congrArg (_ + ·) ki_1) (Nat.le_of_ble_eq_true rfl) rfl ?_
        refine x_goto dX8_leastSure_43 (tgt := 5) rfl ?_
        refine x_ls (ls' := [(0, .ref 326), (1, .int v1), (2, .int v2), (3, .long (v3 + x2)), (5, .int (v5 + 1))]) [2, 3, 4, 1, 0] rfl ?_
        exact ih (v3 + x2) (v5 + 1) h
      · have h := h.2 c3
        refine x_iload dX8_leastSure_37 rfl ?_
        exact x_ireturn dX8_leastSure_39 ⟨_, rfl, rfl, rfl, rfl, rfl, h⟩
def wp_X8_leastSure (L : ML) (v1 : Int32) (v2 : Int32) (Q : Int32 → Prop) : Prop :=
    (∃ N4, lp_X8_leastSure_5 L v1 v2 Q N4 0 0)
set_option maxRecDepth 20000 in
theorem mt_X8_leastSure {E : Ev} {l : Launch} {n : Nat} {R : MR} (hn : 336 ≤ n) (hG : GRx R) {I : MI} {L : ML} {v1 : Int32} {v2 : Int32} {Q : Int32 → Prop} (h : wp_X8_leastSure L v1 v2 Q) : MX E l rm_X8_leastSure yX8_leastSure cX8_leastSure 6 (some .int) [.ref 326, .int v1, .int v2] n I L R (Qi n R (P00 I L Q)) := by
  refine MX_of (ls := [(0, .ref 326), (1, .int v1), (2, .int v2)]) (by decide) (Nat.le_of_ble_eq_true rfl) rfl ?_
  unfold wp_X8_leastSure at h
  refine x_lconst (v := 0) dX8_leastSure_0 rfl ?_
  refine x_lstore_n (ls' := [(3, .long 0), (0, .ref 326), (1, .int v1), (2, .int v2)]) dX8_leastSure_1 (Nat.le_of_ble_eq_true rfl) rfl ?_
  refine x_iconst (v := 0) dX8_leastSure_2 ki_0 ?_
  refine x_istore (ls' := [(5, .int 0), (3, .long 0), (0, .ref 326), (1, .int v1), (2, .int v2)]) dX8_leastSure_3 (Nat.le_of_ble_eq_true rfl) rfl ?_
  refine x_ls (ls' := [(0, .ref 326), (1, .int v1), (2, .int v2), (3, .long 0), (5, .int 0)]) [2, 3, 4, 1, 0] rfl ?_
  obtain ⟨N4, h⟩ := h
  exact lpt_X8_leastSure_5 hn hG  N4 0 0 h
