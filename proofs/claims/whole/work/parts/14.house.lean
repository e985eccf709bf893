abbrev rm_X9_back : Room := { frames := 0, cells := 0, slots := 0, locals := 0 }
def wp_X9_back (I : MI) (v1 : Int32) (Q : Int32 → MI → Prop) : Prop :=
    ((v1 < 0 → Q (-1) I) ∧ (¬ v1 < 0 → ((v1 ≤ (I 0 1) → (∀ I3, I3 = u2 I 0 1 ((I 0 1) - v1) → Q (I3 0 1) I3)) ∧ (¬ v1 ≤ (I 0 1) → Q (-1) I))))
set_option maxRecDepth 20000 in
theorem mt_X9_back {E : Ev} {l : Launch} {n : Nat} {R : MR} (hn : 336 ≤ n) (hG : GRx R) {I : MI} {L : ML} {v1 : Int32} {Q : Int32 → MI → Prop} (h : wp_X9_back I v1 Q) : MX E l rm_X9_back yX9_back cX9_back 2 (some .int) [.ref 0, .int v1] n I L R (Qi n R (P10 I L Q)) := by
  refine MX_of (ls := [(0, .ref 0), (1, .int v1)]) (by decide) (Nat.le_of_ble_eq_true rfl) rfl ?_
  unfold wp_X9_back at h
  refine x_iload_n dX9_back_0 rfl ?_
  refine x_if_lt dX9_back_1 (tgt := 12) rfl ⟨fun c1 => ?_, fun c1 => ?_⟩
  · have h := h.1 c1
    refine x_iconst (v := (-1)) dX9_back_12 ki_m1 ?_
    exact x_ireturn dX9_back_13 ⟨_, rfl, rfl, rfl, rfl, h⟩
  · have h := h.2 c1
    refine x_iload_n dX9_back_4 rfl ?_
    refine x_aload_n dX9_back_5 rfl ?_
    refine x_geti dX9_back_6 fk_RX9_13 (kl rfl hn) sh_0 ?_
    refine x_icmp_le dX9_back_9 (tgt := 14) rfl ⟨fun c2 => ?_, fun c2 => ?_⟩
    · have h := h.1 c2
      refine x_aload_n dX9_back_14 rfl ?_
      refine x_dup dX9_back_15 rfl ?_
      refine x_geti dX9_back_16 fk_RX9_13 (kl rfl hn) sh_0 ?_
      refine x_iload_n dX9_back_19 rfl ?_
      refine x_isub dX9_back_20 ?_
      refine x_puti dX9_back_21 fk_RX9_13 fw_7_1 (vp_nar_int _) rfl (kl rfl hn) sh_0 (fun I3 eI3 => ?_)
      have h := h I3 eI3
      refine x_aload_n dX9_back_24 rfl ?_
      refine x_geti dX9_back_25 fk_RX9_13 (kl rfl hn) sh_0 ?_
      exact x_ireturn dX9_back_28 ⟨_, rfl, rfl, rfl, rfl, h⟩
    · have h := h.2 c2
      refine x_iconst (v := (-1)) dX9_back_12 ki_m1 ?_
      exact x_ireturn dX9_back_13 ⟨_, rfl, rfl, rfl, rfl, h⟩
abbrev rm_X9_base : Room := { frames := 2, cells := 0, slots := 0, locals := 48 }
def wp_X9_base (I : MI) (L : ML) (v1 : Int32) (v2 : Int32) (Q : Int32 → Prop) : Prop :=
    (wp_X1_hasBase 3 I v1 (fun x1 => (((¬ x1 = 0 → (wp_X9_placeOf v1 0 (fun x3 => (((v2 = 0 → (vp_in v1 4 ∧ Q (I 8 (ix v1)))) ∧ (¬ v2 = 0 → ((v2 = 1 → (wp_X4_countAt 18 72 I L 12 x3 (fun x7 => (Q x7)))) ∧ (¬ v2 = 1 → ((v2 = 2 → (wp_X4_countAt 20 184 I L 12 x3 (fun x9 => (Q x9)))) ∧ (¬ v2 = 2 → ((v2 = 3 → (wp_X2_waysOf 2 I L 24 12 x3 (fun x11 => (Q x11)))) ∧ (¬ v2 = 3 → ((v2 = 4 → (wp_X2_inHand 2 I v1 (fun x13 => (Q x13)))) ∧ (¬ v2 = 4 → Q (-1))))))))))))))) ∧ (x1 = 0 → Q (-1))))))
set_option maxRecDepth 20000 in
theorem mt_X9_base {E : Ev} {l : Launch} {n : Nat} {R : MR} (hn : 336 ≤ n) (hG : GRx R) {I : MI} {L : ML} {v1 : Int32} {v2 : Int32} {Q : Int32 → Prop} (h : wp_X9_base I L v1 v2 Q) : MX E l rm_X9_base yX9_base cX9_base 4 (some .int) [.ref 0, .int v1, .int v2] n I L R (Qi n R (P00 I L Q)) := by
  refine MX_of (ls := [(0, .ref 0), (1, .int v1), (2, .int v2)]) (by decide) (Nat.le_of_ble_eq_true rfl) rfl ?_
  unfold wp_X9_base at h
  refine x_aload_n dX9_base_0 rfl ?_
  refine x_getr (j := 2) dX9_base_1 fk_RX9_20 (kl rfl hn) sh_0 (rt_0_2 hG) ?_
  refine x_getr (j := 3) dX9_base_4 fk_RX9_66 (Py_k play_2 hn 0 rfl) (Py_s0 play_2) (Py_r0 hG play_2) ?_
  refine x_iload_n dX9_base_7 rfl ?_
  refine x_cVi00 [.int v1] (mt_X1_hasBase hn hG (Py_plan play_2) h) dX9_base_8 lk_RX9_193 (Pn_k (Py_plan play_2) hn 0 rfl) (Pn_s0 (Py_plan play_2)) rfl rfl (Nat.le_of_ble_eq_true rfl) (Rf_of rfl) (fun x1 h => ?_)
  refine x_if_ne dX9_base_11 (tgt := 16) rfl ⟨fun c2 => ?_, fun c2 => ?_⟩
  · have h := h.1 c2
    refine x_iload_n dX9_base_16 rfl ?_
    refine x_iconst (v := 0) dX9_base_17 ki_0 ?_
    refine x_cSi00 [.int v1, .int 0] (mt_X9_placeOf hn hG h) dX9_base_18 lk_RX9_93 rfl rfl (Nat.le_of_ble_eq_true rfl) (Rf_of rfl) (fun x3 h => ?_)
    refine x_istore_n (ls' := [(3, .int x3), (0, .ref 0), (1, .int v1), (2, .int v2)]) dX9_base_21 (Nat.le_of_ble_eq_true rfl) rfl ?_
    refine x_iload_n dX9_base_22 rfl ?_
    rcases Classical.em (v2 = 0) with c4 | c4
    · have h := h.1 c4
      refine x_tabIn (tgt := 56) dX9_base_23 (by rw [c4]; decide) (by rw [c4]; decide) (off := 33) (by rw [c4]; rfl) rfl ?_
      refine x_aload_n dX9_base_56 rfl ?_
      refine x_getr (j := 2) dX9_base_57 fk_RX9_20 (kl rfl hn) sh_0 (rt_0_2 hG) ?_
      refine x_getr (j := 3) dX9_base_60 fk_RX9_66 (Py_k play_2 hn 0 rfl) (Py_s0 play_2) (Py_r0 hG play_2) ?_
      refine x_getr (j := 8) dX9_base_63 fk_RX9_196 (Pn_k (Py_plan play_2) hn 0 rfl) (Pn_s0 (Py_plan play_2)) (Pn_r9 hG (Py_plan play_2)) ?_
      refine x_iload_n dX9_base_66 rfl ?_
      obtain ⟨b5, h⟩ := h
      refine x_iaload dX9_base_67 (Pn_k (Py_plan play_2) hn 5 rfl) (Pn_s5 (Py_plan play_2)) b5 ?_
      exact x_ireturn dX9_base_68 ⟨_, rfl, rfl, rfl, rfl, rfl, h⟩
    · have h := h.2 c4
      rcases Classical.em (v2 = 1) with c6 | c6
      · have h := h.1 c6
        refine x_tabIn (tgt := 69) dX9_base_23 (by rw [c6]; decide) (by rw [c6]; decide) (off := 46) (by rw [c6]; rfl) rfl ?_
        refine x_aload_n dX9_base_69 rfl ?_
        refine x_getr (j := 2) dX9_base_70 fk_RX9_20 (kl rfl hn) sh_0 (rt_0_2 hG) ?_
        refine x_getr (j := 18) dX9_base_73 fk_RX9_199 (Py_k play_2 hn 0 rfl) (Py_s0 play_2) (Py_r6 hG play_2) ?_
        refine x_bipush (v := 12) dX9_base_76 kb_12 ?_
        refine x_iload_n dX9_base_78 rfl ?_
        refine x_cVi00 [.int 12, .int x3] (mt_X4_countAt hn hG (Py_wants play_2) h) dX9_base_79 lk_RX9_181 (Rw_k (Py_wants play_2) hn 0 rfl) (Rw_s0 (Py_wants play_2)) rfl rfl (Nat.le_of_ble_eq_true rfl) (Rf_of rfl) (fun x7 h => ?_)
        exact x_ireturn dX9_base_82 ⟨_, rfl, rfl, rfl, rfl, rfl, h⟩
      · have h := h.2 c6
        rcases Classical.em (v2 = 2) with c8 | c8
        · have h := h.1 c8
          refine x_tabIn (tgt := 83) dX9_base_23 (by rw [c8]; decide) (by rw [c8]; decide) (off := 60) (by rw [c8]; rfl) rfl ?_
          refine x_aload_n dX9_base_83 rfl ?_
          refine x_getr (j := 2) dX9_base_84 fk_RX9_20 (kl rfl hn) sh_0 (rt_0_2 hG) ?_
          refine x_getr (j := 20) dX9_base_87 fk_RX9_177 (Py_k play_2 hn 0 rfl) (Py_s0 play_2) (Py_r7 hG play_2) ?_
          refine x_bipush (v := 12) dX9_base_90 kb_12 ?_
          refine x_iload_n dX9_base_92 rfl ?_
          refine x_cVi00 [.int 12, .int x3] (mt_X4_countAt hn hG (Py_calls play_2) h) dX9_base_93 lk_RX9_181 (Rw_k (Py_calls play_2) hn 0 rfl) (Rw_s0 (Py_calls play_2)) rfl rfl (Nat.le_of_ble_eq_true rfl) (Rf_of rfl) (fun x9 h => ?_)
          exact x_ireturn dX9_base_96 ⟨_, rfl, rfl, rfl, rfl, rfl, h⟩
        · have h := h.2 c8
          rcases Classical.em (v2 = 3) with c10 | c10
          · have h := h.1 c10
            refine x_tabIn (tgt := 97) dX9_base_23 (by rw [c10]; decide) (by rw [c10]; decide) (off := 74) (by rw [c10]; rfl) rfl ?_
            refine x_aload_n dX9_base_97 rfl ?_
            refine x_getr (j := 2) dX9_base_98 fk_RX9_20 (kl rfl hn) sh_0 (rt_0_2 hG) ?_
            refine x_bipush (v := 24) dX9_base_101 kb_24 ?_
            refine x_bipush (v := 12) dX9_base_103 kb_12 ?_
            refine x_iload_n dX9_base_105 rfl ?_
            refine x_cVi00 [.int 24, .int 12, .int x3] (mt_X2_waysOf hn hG play_2 h) dX9_base_106 lk_RX9_189 (Py_k play_2 hn 0 rfl) (Py_s0 play_2) rfl rfl (Nat.le_of_ble_eq_true rfl) (Rf_of rfl) (fun x11 h => ?_)
            exact x_ireturn dX9_base_109 ⟨_, rfl, rfl, rfl, rfl, rfl, h⟩
          · have h := h.2 c10
            rcases Classical.em (v2 = 4) with c12 | c12
            · have h := h.1 c12
              refine x_tabIn (tgt := 110) dX9_base_23 (by rw [c12]; decide) (by rw [c12]; decide) (off := 87) (by rw [c12]; rfl) rfl ?_
              refine x_aload_n dX9_base_110 rfl ?_
              refine x_getr (j := 2) dX9_base_111 fk_RX9_20 (kl rfl hn) sh_0 (rt_0_2 hG) ?_
              refine x_iload_n dX9_base_114 rfl ?_
              refine x_cVi00 [.int v1] (mt_X2_inHand hn hG play_2 h) dX9_base_115 lk_RX9_202 (Py_k play_2 hn 0 rfl) (Py_s0 play_2) rfl rfl (Nat.le_of_ble_eq_true rfl) (Rf_of rfl) (fun x13 h => ?_)
              exact x_ireturn dX9_base_118 ⟨_, rfl, rfl, rfl, rfl, rfl, h⟩
            · have h := h.2 c12
              refine x_tabOut (tgt := 119) dX9_base_23 (sw_out 4 rfl (sw_5 c4 c6 c8 c10 c12)) rfl ?_
              refine x_iconst (v := (-1)) dX9_base_119 ki_m1 ?_
              exact x_ireturn dX9_base_120 ⟨_, rfl, rfl, rfl, rfl, rfl, h⟩
  · have h := h.2 c2
    refine x_iconst (v := (-1)) dX9_base_14 ki_m1 ?_
    exact x_ireturn dX9_base_15 ⟨_, rfl, rfl, rfl, rfl, rfl, h⟩
abbrev rm_X9_begin : Room := { frames := 4, cells := 0, slots := 0, locals := 112 }
def wp_X9_begin (I : MI) (L : ML) (Q : Int32 → MI → ML → Prop) : Prop :=
    (wp_X0_remember 2 I L (fun I1 L2 => ((wp_X2_beginAnew 2 I1 (fun I3 => (Q (I 2 9) I3 L2))))))
set_option maxRecDepth 20000 in
theorem mt_X9_begin {E : Ev} {l : Launch} {n : Nat} {R : MR} (hn : 336 ≤ n) (hG : GRx R) {I : MI} {L : ML} {Q : Int32 → MI → ML → Prop} (h : wp_X9_begin I L Q) : MX E l rm_X9_begin yX9_begin cX9_begin 2 (some .int) [.ref 0] n I L R (Qi n R (P11 I L Q)) := by
  refine MX_of (ls := [(0, .ref 0)]) (by decide) (Nat.le_of_ble_eq_true rfl) rfl ?_
  unfold wp_X9_begin at h
  refine x_aload_n dX9_begin_0 rfl ?_
  refine x_getr (j := 2) dX9_begin_1 fk_RX9_20 (kl rfl hn) sh_0 (rt_0_2 hG) ?_
  refine x_geti dX9_begin_4 fk_RX9_115 (Py_k play_2 hn 0 rfl) (Py_s0 play_2) ?_
  refine x_istore_n (ls' := [(1, .int (I 2 9)), (0, .ref 0)]) dX9_begin_7 (Nat.le_of_ble_eq_true rfl) rfl ?_
  refine x_aload_n dX9_begin_8 rfl ?_
  refine x_getr (j := 46) dX9_begin_9 fk_RX9_30 (kl rfl hn) sh_0 (rt_0_4 hG) ?_
  refine x_aload_n dX9_begin_12 rfl ?_
  refine x_getr (j := 2) dX9_begin_13 fk_RX9_20 (kl rfl hn) sh_0 (rt_0_2 hG) ?_
  refine x_cVv11 [.ref 2] (mt_X0_remember hn hG play_2 h) dX9_begin_16 lk_RX9_101 (kl rfl hn) sh_46 rfl rfl (Nat.le_of_ble_eq_true rfl) (Rf_of rfl) (fun I1 L2 h => ?_)
  refine x_aload_n dX9_begin_19 rfl ?_
  refine x_getr (j := 2) dX9_begin_20 fk_RX9_20 (kl rfl hn) sh_0 (rt_0_2 hG) ?_
  refine x_cVv10 [] (mt_X2_beginAnew hn hG play_2 h) dX9_begin_23 lk_RX9_55 (Py_k play_2 hn 0 rfl) (Py_s0 play_2) rfl rfl (Nat.le_of_ble_eq_true rfl) (Rf_of rfl) (fun I3 h => ?_)
  refine x_iload_n dX9_begin_26 rfl ?_
  exact x_ireturn dX9_begin_27 ⟨_, rfl, rfl, rfl, h⟩
abbrev rm_X9_benches : Room := { frames := 4, cells := 0, slots := 0, locals := 112 }
def wp_X9_benches (I : MI) (L : ML) (v1 : Int32) (Q : Int32 → MI → ML → Prop) : Prop :=
    ((v1 < 1 → Q (-1) I L) ∧ (¬ v1 < 1 → ((3 < v1 → Q (-1) I L) ∧ (¬ 3 < v1 → ((¬ v1 = (I 3 2) → (wp_X0_remember 2 I L (fun I4 L5 => ((wp_X2_haveBenches 2 I4 L5 v1 (fun I6 L7 => (Q (I 3 2) I6 L7))))))) ∧ (v1 = (I 3 2) → Q (-1) I L))))))
set_option maxRecDepth 20000 in
theorem mt_X9_benches {E : Ev} {l : Launch} {n : Nat} {R : MR} (hn : 336 ≤ n) (hG : GRx R) {I : MI} {L : ML} {v1 : Int32} {Q : Int32 → MI → ML → Prop} (h : wp_X9_benches I L v1 Q) : MX E l rm_X9_benches yX9_benches cX9_benches 3 (some .int) [.ref 0, .int v1] n I L R (Qi n R (P11 I L Q)) := by
  refine MX_of (ls := [(0, .ref 0), (1, .int v1)]) (by decide) (Nat.le_of_ble_eq_true rfl) rfl ?_
  unfold wp_X9_benches at h
  refine x_aload_n dX9_benches_0 rfl ?_
  refine x_getr (j := 2) dX9_benches_1 fk_RX9_20 (kl rfl hn) sh_0 (rt_0_2 hG) ?_
  refine x_getr (j := 3) dX9_benches_4 fk_RX9_66 (Py_k play_2 hn 0 rfl) (Py_s0 play_2) (Py_r0 hG play_2) ?_
  refine x_geti dX9_benches_7 fk_RX9_158 (Pn_k (Py_plan play_2) hn 0 rfl) (Pn_s0 (Py_plan play_2)) ?_
  refine x_istore_n (ls' := [(2, .int (I 3 2)), (0, .ref 0), (1, .int v1)]) dX9_benches_10 (Nat.le_of_ble_eq_true rfl) rfl ?_
  refine x_iload_n dX9_benches_11 rfl ?_
  refine x_iconst (v := 1) dX9_benches_12 ki_1 ?_
  refine x_icmp_lt dX9_benches_13 (tgt := 26) rfl ⟨fun c1 => ?_, fun c1 => ?_⟩
  · have h := h.1 c1
    refine x_iconst (v := (-1)) dX9_benches_26 ki_m1 ?_
    exact x_ireturn dX9_benches_27 ⟨_, rfl, rfl, rfl, h⟩
  · have h := h.2 c1
    refine x_iload_n dX9_benches_16 rfl ?_
    refine x_iconst (v := 3) dX9_benches_17 ki_3 ?_
    refine x_icmp_gt dX9_benches_18 (tgt := 26) rfl ⟨fun c2 => ?_, fun c2 => ?_⟩
    · have h := h.1 c2
      refine x_iconst (v := (-1)) dX9_benches_26 ki_m1 ?_
      exact x_ireturn dX9_benches_27 ⟨_, rfl, rfl, rfl, h⟩
    · have h := h.2 c2
      refine x_iload_n dX9_benches_21 rfl ?_
      refine x_iload_n dX9_benches_22 rfl ?_
      refine x_icmp_ne dX9_benches_23 (tgt := 28) rfl ⟨fun c3 => ?_, fun c3 => ?_⟩
      · have h := h.1 c3
        refine x_aload_n dX9_benches_28 rfl ?_
        refine x_getr (j := 46) dX9_benches_29 fk_RX9_30 (kl rfl hn) sh_0 (rt_0_4 hG) ?_
        refine x_aload_n dX9_benches_32 rfl ?_
        refine x_getr (j := 2) dX9_benches_33 fk_RX9_20 (kl rfl hn) sh_0 (rt_0_2 hG) ?_
        refine x_cVv11 [.ref 2] (mt_X0_remember hn hG play_2 h) dX9_benches_36 lk_RX9_101 (kl rfl hn) sh_46 rfl rfl (Nat.le_of_ble_eq_true rfl) (Rf_of rfl) (fun I4 L5 h => ?_)
        refine x_aload_n dX9_benches_39 rfl ?_
        refine x_getr (j := 2) dX9_benches_40 fk_RX9_20 (kl rfl hn) sh_0 (rt_0_2 hG) ?_
        refine x_iload_n dX9_benches_43 rfl ?_
        refine x_cVv11 [.int v1] (mt_X2_haveBenches hn hG play_2 h) dX9_benches_44 lk_RX9_161 (Py_k play_2 hn 0 rfl) (Py_s0 play_2) rfl rfl (Nat.le_of_ble_eq_true rfl) (Rf_of rfl) (fun I6 L7 h => ?_)
        refine x_iload_n dX9_benches_47 rfl ?_
        exact x_ireturn dX9_benches_48 ⟨_, rfl, rfl, rfl, h⟩
      · have h := h.2 c3
        refine x_iconst (v := (-1)) dX9_benches_26 ki_m1 ?_
        exact x_ireturn dX9_benches_27 ⟨_, rfl, rfl, rfl, h⟩
abbrev rm_X9_best : Room := { frames := 4, cells := 0, slots := 0, locals := 94 }
def wp_X9_best (I : MI) (L : ML) (v1 : Int32) (v2 : Int32) (v3 : Int32) (Q : Int32 → MI → ML → Prop) : Prop :=
    (wp_X9_isPurse v1 (fun x1 => (((x1 = 0 → Q (-1) I L) ∧ (¬ x1 = 0 → (wp_X1_hasCell 3 I v2 v3 (fun x3 => (((¬ x3 = 0 → (wp_X8_learnBest 3 I L (fun I5 L6 => ((wp_X8_bestSpares 3 I5 v1 ((v2 * 3) + v3) (fun x7 => (Q x7 I5 L6))))))) ∧ (x3 = 0 → Q (-1) I L))))))))))
set_option maxRecDepth 20000 in
theorem mt_X9_best {E : Ev} {l : Launch} {n : Nat} {R : MR} (hn : 336 ≤ n) (hG : GRx R) {I : MI} {L : ML} {v1 : Int32} {v2 : Int32} {v3 : Int32} {Q : Int32 → MI → ML → Prop} (h : wp_X9_best I L v1 v2 v3 Q) : MX E l rm_X9_best yX9_best cX9_best 4 (some .int) [.ref 0, .int v1, .int v2, .int v3] n I L R (Qi n R (P11 I L Q)) := by
  refine MX_of (ls := [(0, .ref 0), (1, .int v1), (2, .int v2), (3, .int v3)]) (by decide) (Nat.le_of_ble_eq_true rfl) rfl ?_
  unfold wp_X9_best at h
  refine x_iload_n dX9_best_0 rfl ?_
  refine x_cSi00 [.int v1] (mt_X9_isPurse hn hG h) dX9_best_1 lk_RX9_284 rfl rfl (Nat.le_of_ble_eq_true rfl) (Rf_of rfl) (fun x1 h => ?_)
  refine x_if_eq dX9_best_4 (tgt := 22) rfl ⟨fun c2 => ?_, fun c2 => ?_⟩
  · have h := h.1 c2
    refine x_iconst (v := (-1)) dX9_best_22 ki_m1 ?_
    exact x_ireturn dX9_best_23 ⟨_, rfl, rfl, rfl, h⟩
  · have h := h.2 c2
    refine x_aload_n dX9_best_7 rfl ?_
    refine x_getr (j := 2) dX9_best_8 fk_RX9_20 (kl rfl hn) sh_0 (rt_0_2 hG) ?_
    refine x_getr (j := 3) dX9_best_11 fk_RX9_66 (Py_k play_2 hn 0 rfl) (Py_s0 play_2) (Py_r0 hG play_2) ?_
    refine x_iload_n dX9_best_14 rfl ?_
    refine x_iload_n dX9_best_15 rfl ?_
    refine x_cVi00 [.int v2, .int v3] (mt_X1_hasCell hn hG (Py_plan play_2) h) dX9_best_16 lk_RX9_89 (Pn_k (Py_plan play_2) hn 0 rfl) (Pn_s0 (Py_plan play_2)) rfl rfl (Nat.le_of_ble_eq_true rfl) (Rf_of rfl) (fun x3 h => ?_)
    refine x_if_ne dX9_best_19 (tgt := 24) rfl ⟨fun c4 => ?_, fun c4 => ?_⟩
    · have h := h.1 c4
      refine x_aload_n dX9_best_24 rfl ?_
      refine x_getr (j := 326) dX9_best_25 fk_RX9_51 (kl rfl hn) sh_0 (rt_0_7 hG) ?_
      refine x_aload_n dX9_best_28 rfl ?_
      refine x_getr (j := 2) dX9_best_29 fk_RX9_20 (kl rfl hn) sh_0 (rt_0_2 hG) ?_
      refine x_getr (j := 3) dX9_best_32 fk_RX9_66 (Py_k play_2 hn 0 rfl) (Py_s0 play_2) (Py_r0 hG play_2) ?_
      refine x_cVv11 [.ref 3] (mt_X8_learnBest hn hG (Py_plan play_2) h) dX9_best_35 lk_RX9_293 (kl rfl hn) sh_326 rfl rfl (Nat.le_of_ble_eq_true rfl) (Rf_of rfl) (fun I5 L6 h => ?_)
      refine x_aload_n dX9_best_38 rfl ?_
      refine x_getr (j := 326) dX9_best_39 fk_RX9_51 (kl rfl hn) sh_0 (rt_0_7 hG) ?_
      refine x_aload_n dX9_best_42 rfl ?_
      refine x_getr (j := 2) dX9_best_43 fk_RX9_20 (kl rfl hn) sh_0 (rt_0_2 hG) ?_
      refine x_getr (j := 3) dX9_best_46 fk_RX9_66 (Py_k play_2 hn 0 rfl) (Py_s0 play_2) (Py_r0 hG play_2) ?_
      refine x_iload_n dX9_best_49 rfl ?_
      refine x_iload_n dX9_best_50 rfl ?_
      refine x_iconst (v := 3) dX9_best_51 ki_3 ?_
      refine x_imul dX9_best_52 ?_
      refine x_iload_n dX9_best_53 rfl ?_
      refine x_iadd dX9_best_54 ?_
      refine x_cVi00 [.ref 3, .int v1, .int ((v2 * 3) + v3)] (mt_X8_bestSpares hn hG (Py_plan play_2) h) dX9_best_55 lk_RX9_306 (kl rfl hn) sh_326 rfl rfl (Nat.le_of_ble_eq_true rfl) (Rf_of rfl) (fun x7 h => ?_)
      exact x_ireturn dX9_best_58 ⟨_, rfl, rfl, rfl, h⟩
    · have h := h.2 c4
      refine x_iconst (v := (-1)) dX9_best_22 ki_m1 ?_
      exact x_ireturn dX9_best_23 ⟨_, rfl, rfl, rfl, h⟩
abbrev rm_X9_lateBehindRun : Room := { frames := 6, cells := 0, slots := 0, locals := 168 }
def wp_X9_lateBehindRun (I : MI) (L : ML) (v1 : Int32) (v2 : Int32) (Q : Int32 → MI → ML → Prop) : Prop :=
    (wp_X2_drawDays 24 I L v1 v2 (fun x1 I2 L3 => ((wp_X2_late 24 I2 L3 (fun x4 => (Q x4 I2 L3))))))
set_option maxRecDepth 20000 in
theorem mt_X9_lateBehindRun {E : Ev} {l : Launch} {n : Nat} {R : MR} (hn : 336 ≤ n) (hG : GRx R) {I : MI} {L : ML} {v1 : Int32} {v2 : Int32} {Q : Int32 → MI → ML → Prop} (h : wp_X9_lateBehindRun I L v1 v2 Q) : MX E l rm_X9_lateBehindRun yX9_lateBehindRun cX9_lateBehindRun 3 (some .int) [.ref 0, .int v1, .int v2] n I L R (Qi n R (P11 I L Q)) := by
  refine MX_of (ls := [(0, .ref 0), (1, .int v1), (2, .int v2)]) (by decide) (Nat.le_of_ble_eq_true rfl) rfl ?_
  unfold wp_X9_lateBehindRun at h
  refine x_aload_n dX9_lateBehindRun_0 rfl ?_
  refine x_getr (j := 24) dX9_lateBehindRun_1 fk_RX9_24 (kl rfl hn) sh_0 (rt_0_3 hG) ?_
  refine x_iload_n dX9_lateBehindRun_4 rfl ?_
  refine x_iload_n dX9_lateBehindRun_5 rfl ?_
  refine x_cVi11 [.int v1, .int v2] (mt_X2_drawDays hn hG play_24 h) dX9_lateBehindRun_6 lk_RX9_118 (Py_k play_24 hn 0 rfl) (Py_s0 play_24) rfl rfl (Nat.le_of_ble_eq_true rfl) (Rf_of rfl) (fun x1 I2 L3 h => ?_)
  refine x_pop dX9_lateBehindRun_9 rfl ?_
  refine x_aload_n dX9_lateBehindRun_10 rfl ?_
  refine x_getr (j := 24) dX9_lateBehindRun_11 fk_RX9_24 (kl rfl hn) sh_0 (rt_0_3 hG) ?_
  refine x_cVi00 [] (mt_X2_late hn hG play_24 h) dX9_lateBehindRun_14 lk_RX9_324 (Py_k play_24 hn 0 rfl) (Py_s0 play_24) rfl rfl (Nat.le_of_ble_eq_true rfl) (Rf_of rfl) (fun x4 h => ?_)
  exact x_ireturn dX9_lateBehindRun_17 ⟨_, rfl, rfl, rfl, h⟩
abbrev rm_X9_bestKeep : Room := { frames := 7, cells := 0, slots := 0, locals := 190 }
def jn_X9_bestKeep_79 (I : MI) (L : ML) (v3 : Int32) (v4 : Int32) (v5 : Int32) (kj23 : Int32 → Int32 → Int32 → MI → ML → Prop) : Prop :=
    kj23 v3 v4 (v5 + 1) I L
set_option maxRecDepth 20000 in
theorem jnt_X9_bestKeep_79 {E : Ev} {l : Launch} {n : Nat} {R : MR} (hn : 336 ≤ n) (hG : GRx R) {I0 : MI} {L0 : ML} {Q : Int32 → MI → ML → Prop} {I : MI} {L : ML} {v1 : Int32} {v2 : Int32} {v3 : Int32} {v4 : Int32} {v5 : Int32} {kj23 : Int32 → Int32 → Int32 → MI → ML → Prop}
    (hJ23 : ∀ (v3 : Int32) (v4 : Int32) (v5 : Int32) (I : MI) (L : ML), kj23 v3 v4 v5 I L → X E l rm_X9_bestKeep yX9_bestKeep cX9_bestKeep 7 (some .int) noX (ZM E rm_X9_bestKeep (Qi n R (P11 I0 L0 Q))) 23 [(0, .ref 0), (1, .int v1), (2, .int v2), (3, .int v3), (4, .int v4), (5, .int v5)] [] n I L R 0 0) (h : jn_X9_bestKeep_79 I L v3 v4 v5 kj23) : X E l rm_X9_bestKeep yX9_bestKeep cX9_bestKeep 7 (some .int) noX (ZM E rm_X9_bestKeep (Qi n R (P11 I0 L0 Q))) 79 [(0, .ref 0), (1, .int v1), (2, .int v2), (3, .int v3), (4, .int v4), (5, .int v5)] [] n I L R 0 0 := by
  unfold jn_X9_bestKeep_79 at h
  refine x_iinc (v := v5 + 1) (ls' := [(5, .int (v5 + 1)), (0, .ref 0), (1, .int v1), (2, .int v2), (3, .int v3), (4, .int v4)]) dX9_bestKeep_79 rfl (congrArg (_ + ·) ki_1) (Nat.le_of_ble_eq_true rfl) rfl ?_
  refine x_goto dX9_bestKeep_82 (tgt := 23) rfl ?_
  refine x_ls (ls' := [(0, .ref 0), (1, .int v1), (2, .int v2), (3, .int v3), (4, .int v4), (5, .int (v5 + 1))]) [1, 2, 3, 4, 5, 0] rfl ?_
  exact hJ23 v3 v4 (v5 + 1) I L h
def jn_X9_bestKeep_72 (I : MI) (L : ML) (v5 : Int32) (v6 : Int32) (kj23 : Int32 → Int32 → Int32 → MI → ML → Prop) : Prop :=
    (jn_X9_bestKeep_79 I L v5 v6 v5 (fun x11 x12 x13 I14 L15 => kj23 x11 x12 x13 I14 L15))
set_option maxRecDepth 20000 in
theorem jnt_X9_bestKeep_72 {E : Ev} {l : Launch} {n : Nat} {R : MR} (hn : 336 ≤ n) (hG : GRx R) {I0 : MI} {L0 : ML} {Q : Int32 → MI → ML → Prop} {I : MI} {L : ML} {v1 : Int32} {v2 : Int32} {v5 : Int32} {v6 : Int32} {kj23 : Int32 → Int32 → Int32 → MI → ML → Prop}
    (hJ23 : ∀ (v3 : Int32) (v4 : Int32) (v5 : Int32) (I : MI) (L : ML), kj23 v3 v4 v5 I L → X E l rm_X9_bestKeep yX9_bestKeep cX9_bestKeep 7 (some .int) noX (ZM E rm_X9_bestKeep (Qi n R (P11 I0 L0 Q))) 23 [(0, .ref 0), (1, .int v1), (2, .int v2), (3, .int v3), (4, .int v4), (5, .int v5)] [] n I L R 0 0) (h : jn_X9_bestKeep_72 I L v5 v6 kj23) : X E l rm_X9_bestKeep yX9_bestKeep cX9_bestKeep 7 (some .int) noX (ZM E rm_X9_bestKeep (Qi n R (P11 I0 L0 Q))) 72 [(0, .ref 0), (1, .int v1), (2, .int v2), (5, .int v5), (6, .int v6)] [] n I L R 0 0 := by
  unfold jn_X9_bestKeep_72 at h
  refine x_iload dX9_bestKeep_72 rfl ?_
  refine x_istore_n (ls' := [(3, .int v5), (0, .ref 0), (1, .int v1), (2, .int v2), (5, .int v5), (6, .int v6)]) dX9_bestKeep_74 (Nat.le_of_ble_eq_true rfl) rfl ?_
  refine x_iload dX9_bestKeep_75 rfl ?_
  refine x_istore (ls' := [(4, .int v6), (3, .int v5), (0, .ref 0), (1, .int v1), (2, .int v2), (5, .int v5), (6, .int v6)]) dX9_bestKeep_77 (Nat.le_of_ble_eq_true rfl) rfl ?_
  refine x_ls (ls' := [(0, .ref 0), (1, .int v1), (2, .int v2), (3, .int v5), (4, .int v6), (5, .int v5)]) [2, 3, 4, 1, 0, 5] rfl ?_
  refine jnt_X9_bestKeep_79 hn hG (fun x11 x12 x13 I14 L15 h => ?_) h
  exact hJ23 x11 x12 x13 I14 L15 h
def lp_X9_bestKeep_23 (v1 : Int32) (v2 : Int32) (Q : Int32 → MI → ML → Prop) : Nat → Int32 → Int32 → Int32 → MI → ML → Prop
  | 0, _, _, _, _, _ => False
  | n + 1, v3, v4, v5, I, L =>
    ((4 < v5 → Q v3 I L) ∧ (¬ 4 < v5 → (wp_X2_copyFrom 24 2 I L (fun I4 L5 => ((∀ I6, I6 = u2 I4 25 3 v5 → (wp_X9_lateBehindRun I6 L5 v1 v2 (fun x7 I8 L9 => (((v5 = 0 → (jn_X9_bestKeep_72 I8 L9 v5 x7 (fun x16 x17 x18 I19 L20 => (lp_X9_bestKeep_23 v1 v2 Q n x16 x17 x18 I19 L20)))) ∧ (¬ v5 = 0 → ((v4 ≤ x7 → (jn_X9_bestKeep_79 I8 L9 v3 v4 v5 (fun x22 x23 x24 I25 L26 => (lp_X9_bestKeep_23 v1 v2 Q n x22 x23 x24 I25 L26)))) ∧ (¬ v4 ≤ x7 → (jn_X9_bestKeep_72 I8 L9 v5 x7 (fun x27 x28 x29 I30 L31 => (lp_X9_bestKeep_23 v1 v2 Q n x27 x28 x29 I30 L31))))))))))))))))
set_option maxRecDepth 20000 in
theorem lpt_X9_bestKeep_23 {E : Ev} {l : Launch} {n : Nat} {R : MR} (hn : 336 ≤ n) (hG : GRx R) {I0 : MI} {L0 : ML} {Q : Int32 → MI → ML → Prop} {v1 : Int32} {v2 : Int32} : ∀ (N : Nat) (v3 : Int32) (v4 : Int32) (v5 : Int32) (I : MI) (L : ML), lp_X9_bestKeep_23 v1 v2 Q N v3 v4 v5 I L → X E l rm_X9_bestKeep yX9_bestKeep cX9_bestKeep 7 (some .int) noX (ZM E rm_X9_bestKeep (Qi n R (P11 I0 L0 Q))) 23 [(0, .ref 0), (1, .int v1), (2, .int v2), (3, .int v3), (4, .int v4), (5, .int v5)] [] n I L R 0 0 := by
  intro N
  induction N with
  | zero => intro v3 v4 v5 I L h; exact False.elim h
  | succ N ih =>
    intro v3 v4 v5 I L h
    unfold lp_X9_bestKeep_23 at h
    refine x_iload dX9_bestKeep_23 rfl ?_
    refine x_iconst (v := 4) dX9_bestKeep_25 ki_4 ?_
    refine x_icmp_gt dX9_bestKeep_26 (tgt := 85) rfl ⟨fun c3 => ?_, fun c3 => ?_⟩
    · have h := h.1 c3
      refine x_iload_n dX9_bestKeep_85 rfl ?_
      exact x_ireturn dX9_bestKeep_86 ⟨_, rfl, rfl, rfl, h⟩
    · have h := h.2 c3
      refine x_aload_n dX9_bestKeep_29 rfl ?_
      refine x_getr (j := 24) dX9_bestKeep_30 fk_RX9_24 (kl rfl hn) sh_0 (rt_0_3 hG) ?_
      refine x_aload_n dX9_bestKeep_33 rfl ?_
      refine x_getr (j := 2) dX9_bestKeep_34 fk_RX9_20 (kl rfl hn) sh_0 (rt_0_2 hG) ?_
      refine x_cVv11 [.ref 2] (mt_X2_copyFrom hn hG play_24 play_2 h) dX9_bestKeep_37 lk_RX9_312 (Py_k play_24 hn 0 rfl) (Py_s0 play_24) rfl rfl (Nat.le_of_ble_eq_true rfl) (Rf_of rfl) (fun I4 L5 h => ?_)
      refine x_aload_n dX9_bestKeep_40 rfl ?_
      refine x_getr (j := 24) dX9_bestKeep_41 fk_RX9_24 (kl rfl hn) sh_0 (rt_0_3 hG) ?_
      refine x_getr (j := 25) dX9_bestKeep_44 fk_RX9_66 (Py_k play_24 hn 0 rfl) (Py_s0 play_24) (Py_r0 hG play_24) ?_
      refine x_iload dX9_bestKeep_47 rfl ?_
      refine x_puti dX9_bestKeep_49 fk_RX9_164 fw_1_3 (vp_nar_int _) rfl (Pn_k (Py_plan play_24) hn 0 rfl) (Pn_s0 (Py_plan play_24)) (fun I6 eI6 => ?_)
      have h := h I6 eI6
      refine x_aload_n dX9_bestKeep_52 rfl ?_
      refine x_iload_n dX9_bestKeep_53 rfl ?_
      refine x_iload_n dX9_bestKeep_54 rfl ?_
      refine x_cVi11 [.int v1, .int v2] (mt_X9_lateBehindRun hn hG h) dX9_bestKeep_55 lk_RX9_315 (kl rfl hn) sh_0 rfl rfl (Nat.le_of_ble_eq_true rfl) (Rf_of rfl) (fun x7 I8 L9 h => ?_)
      refine x_istore (ls' := [(6, .int x7), (0, .ref 0), (1, .int v1), (2, .int v2), (3, .int v3), (4, .int v4), (5, .int v5)]) dX9_bestKeep_58 (Nat.le_of_ble_eq_true rfl) rfl ?_
      refine x_iload dX9_bestKeep_60 rfl ?_
      refine x_if_eq dX9_bestKeep_62 (tgt := 72) rfl ⟨fun c10 => ?_, fun c10 => ?_⟩
      · have h := h.1 c10
        refine x_ls (ls' := [(0, .ref 0), (1, .int v1), (2, .int v2), (5, .int v5), (6, .int x7)]) [1, 2, 3, 6, 0] rfl ?_
        refine jnt_X9_bestKeep_72 hn hG (fun x16 x17 x18 I19 L20 h => ?_) h
        exact ih x16 x17 x18 I19 L20 h
      · have h := h.2 c10
        refine x_iload dX9_bestKeep_65 rfl ?_
        refine x_iload dX9_bestKeep_67 rfl ?_
        refine x_icmp_ge dX9_bestKeep_69 (tgt := 79) rfl ⟨fun c21 => ?_, fun c21 => ?_⟩
        · have h := h.1 c21
          refine x_ls (ls' := [(0, .ref 0), (1, .int v1), (2, .int v2), (3, .int v3), (4, .int v4), (5, .int v5)]) [1, 2, 3, 4, 5, 6] rfl ?_
          refine jnt_X9_bestKeep_79 hn hG (fun x22 x23 x24 I25 L26 h => ?_) h
          exact ih x22 x23 x24 I25 L26 h
        · have h := h.2 c21
          refine x_ls (ls' := [(0, .ref 0), (1, .int v1), (2, .int v2), (5, .int v5), (6, .int x7)]) [1, 2, 3, 6, 0] rfl ?_
          refine jnt_X9_bestKeep_72 hn hG (fun x27 x28 x29 I30 L31 h => ?_) h
          exact ih x27 x28 x29 I30 L31 h
def wp_X9_bestKeep (I : MI) (L : ML) (v1 : Int32) (v2 : Int32) (Q : Int32 → MI → ML → Prop) : Prop :=
    (wp_X2_canGoBy 2 I v1 12 (fun x1 => (((¬ x1 = 0 → (∃ N32, lp_X9_bestKeep_23 v1 v2 Q N32 0 0 0 I L)) ∧ (x1 = 0 → Q (-1) I L)))))
set_option maxRecDepth 20000 in
theorem mt_X9_bestKeep {E : Ev} {l : Launch} {n : Nat} {R : MR} (hn : 336 ≤ n) (hG : GRx R) {I : MI} {L : ML} {v1 : Int32} {v2 : Int32} {Q : Int32 → MI → ML → Prop} (h : wp_X9_bestKeep I L v1 v2 Q) : MX E l rm_X9_bestKeep yX9_bestKeep cX9_bestKeep 7 (some .int) [.ref 0, .int v1, .int v2] n I L R (Qi n R (P11 I L Q)) := by
  refine MX_of (ls := [(0, .ref 0), (1, .int v1), (2, .int v2)]) (by decide) (Nat.le_of_ble_eq_true rfl) rfl ?_
  unfold wp_X9_bestKeep at h
  refine x_aload_n dX9_bestKeep_0 rfl ?_
  refine x_getr (j := 2) dX9_bestKeep_1 fk_RX9_20 (kl rfl hn) sh_0 (rt_0_2 hG) ?_
  refine x_iload_n dX9_bestKeep_4 rfl ?_
  refine x_bipush (v := 12) dX9_bestKeep_5 kb_12 ?_
  refine x_cVi00 [.int v1, .int 12] (mt_X2_canGoBy hn hG play_2 h) dX9_bestKeep_7 lk_RX9_109 (Py_k play_2 hn 0 rfl) (Py_s0 play_2) rfl rfl (Nat.le_of_ble_eq_true rfl) (Rf_of rfl) (fun x1 h => ?_)
  refine x_if_ne dX9_bestKeep_10 (tgt := 15) rfl ⟨fun c2 => ?_, fun c2 => ?_⟩
  · have h := h.1 c2
    refine x_iconst (v := 0) dX9_bestKeep_15 ki_0 ?_
    refine x_istore_n (ls' := [(3, .int 0), (0, .ref 0), (1, .int v1), (2, .int v2)]) dX9_bestKeep_16 (Nat.le_of_ble_eq_true rfl) rfl ?_
    refine x_iconst (v := 0) dX9_bestKeep_17 ki_0 ?_
    refine x_istore (ls' := [(4, .int 0), (3, .int 0), (0, .ref 0), (1, .int v1), (2, .int v2)]) dX9_bestKeep_18 (Nat.le_of_ble_eq_true rfl) rfl ?_
    refine x_iconst (v := 0) dX9_bestKeep_20 ki_0 ?_
    refine x_istore (ls' := [(5, .int 0), (4, .int 0), (3, .int 0), (0, .ref 0), (1, .int v1), (2, .int v2)]) dX9_bestKeep_21 (Nat.le_of_ble_eq_true rfl) rfl ?_
    refine x_ls (ls' := [(0, .ref 0), (1, .int v1), (2, .int v2), (3, .int 0), (4, .int 0), (5, .int 0)]) [3, 4, 5, 2, 1, 0] rfl ?_
    obtain ⟨N32, h⟩ := h
    exact lpt_X9_bestKeep_23 hn hG  N32 0 0 0 I L h
  · have h := h.2 c2
    refine x_iconst (v := (-1)) dX9_bestKeep_13 ki_m1 ?_
    exact x_ireturn dX9_bestKeep_14 ⟨_, rfl, rfl, rfl, h⟩
abbrev rm_X9_bought : Room := { frames := 4, cells := 0, slots := 0, locals := 99 }
def wp_X9_bought (I : MI) (L : ML) (v1 : Int32) (v2 : Int32) (Q : Int32 → MI → ML → Prop) : Prop :=
    (wp_X9_isPurse v1 (fun x1 => (((x1 = 0 → Q (-1) I L) ∧ (¬ x1 = 0 → ((v2 < 0 → Q (-1) I L) ∧ (¬ v2 < 0 → ((v2 ≤ 4 → (wp_X8_learnBuys 3 I L (fun I5 L6 => ((wp_X8_buysWithin I5 v1 (fun x7 => (((¬ v2 = 0 → ((¬ v2 = 1 → (wp_X8_buysOfBase I5 x7 (v2 - 2) (fun x10 => (Q x10 I5 L6)))) ∧ (v2 = 1 → ((x7 ≤ 0 → Q 0 I5 L6) ∧ (¬ x7 ≤ 0 → (vp_in (x7 - 1) 72 ∧ Q (I5 331 (ix (x7 - 1))) I5 L6)))))) ∧ (v2 = 0 → Q x7 I5 L6))))))))) ∧ (¬ v2 ≤ 4 → Q (-1) I L)))))))))
set_option maxRecDepth 20000 in
theorem mt_X9_bought {E : Ev} {l : Launch} {n : Nat} {R : MR} (hn : 336 ≤ n) (hG : GRx R) {I : MI} {L : ML} {v1 : Int32} {v2 : Int32} {Q : Int32 → MI → ML → Prop} (h : wp_X9_bought I L v1 v2 Q) : MX E l rm_X9_bought yX9_bought cX9_bought 4 (some .int) [.ref 0, .int v1, .int v2] n I L R (Qi n R (P11 I L Q)) := by
  refine MX_of (ls := [(0, .ref 0), (1, .int v1), (2, .int v2)]) (by decide) (Nat.le_of_ble_eq_true rfl) rfl ?_
  unfold wp_X9_bought at h
  refine x_iload_n dX9_bought_0 rfl ?_
  refine x_cSi00 [.int v1] (mt_X9_isPurse hn hG h) dX9_bought_1 lk_RX9_284 rfl rfl (Nat.le_of_ble_eq_true rfl) (Rf_of rfl) (fun x1 h => ?_)
  refine x_if_eq dX9_bought_4 (tgt := 16) rfl ⟨fun c2 => ?_, fun c2 => ?_⟩
  · have h := h.1 c2
    refine x_iconst (v := (-1)) dX9_bought_16 ki_m1 ?_
    exact x_ireturn dX9_bought_17 ⟨_, rfl, rfl, rfl, h⟩
  · have h := h.2 c2
    refine x_iload_n dX9_bought_7 rfl ?_
    refine x_if_lt dX9_bought_8 (tgt := 16) rfl ⟨fun c3 => ?_, fun c3 => ?_⟩
    · have h := h.1 c3
      refine x_iconst (v := (-1)) dX9_bought_16 ki_m1 ?_
      exact x_ireturn dX9_bought_17 ⟨_, rfl, rfl, rfl, h⟩
    · have h := h.2 c3
      refine x_iload_n dX9_bought_11 rfl ?_
      refine x_iconst (v := 4) dX9_bought_12 ki_4 ?_
      refine x_icmp_le dX9_bought_13 (tgt := 18) rfl ⟨fun c4 => ?_, fun c4 => ?_⟩
      · have h := h.1 c4
        refine x_aload_n dX9_bought_18 rfl ?_
        refine x_getr (j := 326) dX9_bought_19 fk_RX9_51 (kl rfl hn) sh_0 (rt_0_7 hG) ?_
        refine x_aload_n dX9_bought_22 rfl ?_
        refine x_getr (j := 2) dX9_bought_23 fk_RX9_20 (kl rfl hn) sh_0 (rt_0_2 hG) ?_
        refine x_getr (j := 3) dX9_bought_26 fk_RX9_66 (Py_k play_2 hn 0 rfl) (Py_s0 play_2) (Py_r0 hG play_2) ?_
        refine x_cVv11 [.ref 3] (mt_X8_learnBuys hn hG (Py_plan play_2) h) dX9_bought_29 lk_RX9_269 (kl rfl hn) sh_326 rfl rfl (Nat.le_of_ble_eq_true rfl) (Rf_of rfl) (fun I5 L6 h => ?_)
        refine x_aload_n dX9_bought_32 rfl ?_
        refine x_getr (j := 326) dX9_bought_33 fk_RX9_51 (kl rfl hn) sh_0 (rt_0_7 hG) ?_
        refine x_iload_n dX9_bought_36 rfl ?_
        refine x_cVi00 [.int v1] (mt_X8_buysWithin hn hG h) dX9_bought_37 lk_RX9_287 (kl rfl hn) sh_326 rfl rfl (Nat.le_of_ble_eq_true rfl) (Rf_of rfl) (fun x7 h => ?_)
        refine x_istore_n (ls' := [(3, .int x7), (0, .ref 0), (1, .int v1), (2, .int v2)]) dX9_bought_40 (Nat.le_of_ble_eq_true rfl) rfl ?_
        refine x_iload_n dX9_bought_41 rfl ?_
        refine x_if_ne dX9_bought_42 (tgt := 47) rfl ⟨fun c8 => ?_, fun c8 => ?_⟩
        · have h := h.1 c8
          refine x_iload_n dX9_bought_47 rfl ?_
          refine x_iconst (v := 1) dX9_bought_48 ki_1 ?_
          refine x_icmp_ne dX9_bought_49 (tgt := 72) rfl ⟨fun c9 => ?_, fun c9 => ?_⟩
          · have h := h.1 c9
            refine x_aload_n dX9_bought_72 rfl ?_
            refine x_getr (j := 326) dX9_bought_73 fk_RX9_51 (kl rfl hn) sh_0 (rt_0_7 hG) ?_
            refine x_iload_n dX9_bought_76 rfl ?_
            refine x_iload_n dX9_bought_77 rfl ?_
            refine x_iconst (v := 2) dX9_bought_78 ki_2 ?_
            refine x_isub dX9_bought_79 ?_
            refine x_cVi00 [.int x7, .int (v2 - 2)] (mt_X8_buysOfBase hn hG h) dX9_bought_80 lk_RX9_290 (kl rfl hn) sh_326 rfl rfl (Nat.le_of_ble_eq_true rfl) (Rf_of rfl) (fun x10 h => ?_)
            exact x_ireturn dX9_bought_83 ⟨_, rfl, rfl, rfl, h⟩
          · have h := h.2 c9
            refine x_iload_n dX9_bought_52 rfl ?_
            refine x_if_le dX9_bought_53 (tgt := 70) rfl ⟨fun c11 => ?_, fun c11 => ?_⟩
            · have h := h.1 c11
              refine x_iconst (v := 0) dX9_bought_70 ki_0 ?_
              exact x_ireturn dX9_bought_71 ⟨_, rfl, rfl, rfl, h⟩
            · have h := h.2 c11
              refine x_aload_n dX9_bought_56 rfl ?_
              refine x_getr (j := 326) dX9_bought_57 fk_RX9_51 (kl rfl hn) sh_0 (rt_0_7 hG) ?_
              refine x_getr (j := 331) dX9_bought_60 fk_RX9_281 (kl rfl hn) sh_326 (rt_326_4 hG) ?_
              refine x_iload_n dX9_bought_63 rfl ?_
              refine x_iconst (v := 1) dX9_bought_64 ki_1 ?_
              refine x_isub dX9_bought_65 ?_
              obtain ⟨b12, h⟩ := h
              refine x_iaload dX9_bought_66 (kl rfl hn) sh_331 b12 ?_
              refine x_goto dX9_bought_67 (tgt := 71) rfl ?_
              exact x_ireturn dX9_bought_71 ⟨_, rfl, rfl, rfl, h⟩
        · have h := h.2 c8
          refine x_iload_n dX9_bought_45 rfl ?_
          exact x_ireturn dX9_bought_46 ⟨_, rfl, rfl, rfl, h⟩
      · have h := h.2 c4
        refine x_iconst (v := (-1)) dX9_bought_16 ki_m1 ?_
        exact x_ireturn dX9_bought_17 ⟨_, rfl, rfl, rfl, h⟩
abbrev rm_X9_breaks : Room := { frames := 4, cells := 0, slots := 0, locals := 118 }
def wp_X9_breaks (I : MI) (L : ML) (v1 : Int32) (v2 : Int32) (Q : Int32 → MI → ML → Prop) : Prop :=
    (wp_X1_hasCell 3 I v1 v2 (fun x1 => (((x1 = 0 → Q (-1) I L) ∧ (¬ x1 = 0 → (wp_X9_placeOf v1 v2 (fun x3 => ((wp_X2_canBreak 2 I x3 (fun x4 => (((¬ x4 = 0 → (wp_X0_remember 2 I L (fun I6 L7 => ((wp_X9_placeOf v1 v2 (fun x8 => ((wp_X2_breakPiece 2 I6 L7 x8 (fun x9 I10 L11 => (Q x9 I10 L11)))))))))) ∧ (x4 = 0 → Q (-1) I L)))))))))))))
set_option maxRecDepth 20000 in
theorem mt_X9_breaks {E : Ev} {l : Launch} {n : Nat} {R : MR} (hn : 336 ≤ n) (hG : GRx R) {I : MI} {L : ML} {v1 : Int32} {v2 : Int32} {Q : Int32 → MI → ML → Prop} (h : wp_X9_breaks I L v1 v2 Q) : MX E l rm_X9_breaks yX9_breaks cX9_breaks 3 (some .int) [.ref 0, .int v1, .int v2] n I L R (Qi n R (P11 I L Q)) := by
  refine MX_of (ls := [(0, .ref 0), (1, .int v1), (2, .int v2)]) (by decide) (Nat.le_of_ble_eq_true rfl) rfl ?_
  unfold wp_X9_breaks at h
  refine x_aload_n dX9_breaks_0 rfl ?_
  refine x_getr (j := 2) dX9_breaks_1 fk_RX9_20 (kl rfl hn) sh_0 (rt_0_2 hG) ?_
  refine x_getr (j := 3) dX9_breaks_4 fk_RX9_66 (Py_k play_2 hn 0 rfl) (Py_s0 play_2) (Py_r0 hG play_2) ?_
  refine x_iload_n dX9_breaks_7 rfl ?_
  refine x_iload_n dX9_breaks_8 rfl ?_
  refine x_cVi00 [.int v1, .int v2] (mt_X1_hasCell hn hG (Py_plan play_2) h) dX9_breaks_9 lk_RX9_89 (Pn_k (Py_plan play_2) hn 0 rfl) (Pn_s0 (Py_plan play_2)) rfl rfl (Nat.le_of_ble_eq_true rfl) (Rf_of rfl) (fun x1 h => ?_)
  refine x_if_eq dX9_breaks_12 (tgt := 30) rfl ⟨fun c2 => ?_, fun c2 => ?_⟩
  · have h := h.1 c2
    refine x_iconst (v := (-1)) dX9_breaks_30 ki_m1 ?_
    exact x_ireturn dX9_breaks_31 ⟨_, rfl, rfl, rfl, h⟩
  · have h := h.2 c2
    refine x_aload_n dX9_breaks_15 rfl ?_
    refine x_getr (j := 2) dX9_breaks_16 fk_RX9_20 (kl rfl hn) sh_0 (rt_0_2 hG) ?_
    refine x_iload_n dX9_breaks_19 rfl ?_
    refine x_iload_n dX9_breaks_20 rfl ?_
    refine x_cSi00 [.int v1, .int v2] (mt_X9_placeOf hn hG h) dX9_breaks_21 lk_RX9_93 rfl rfl (Nat.le_of_ble_eq_true rfl) (Rf_of rfl) (fun x3 h => ?_)
    refine x_cVi00 [.int x3] (mt_X2_canBreak hn hG play_2 h) dX9_breaks_24 lk_RX9_97 (Py_k play_2 hn 0 rfl) (Py_s0 play_2) rfl rfl (Nat.le_of_ble_eq_true rfl) (Rf_of rfl) (fun x4 h => ?_)
    refine x_if_ne dX9_breaks_27 (tgt := 32) rfl ⟨fun c5 => ?_, fun c5 => ?_⟩
    · have h := h.1 c5
      refine x_aload_n dX9_breaks_32 rfl ?_
      refine x_getr (j := 46) dX9_breaks_33 fk_RX9_30 (kl rfl hn) sh_0 (rt_0_4 hG) ?_
      refine x_aload_n dX9_breaks_36 rfl ?_
      refine x_getr (j := 2) dX9_breaks_37 fk_RX9_20 (kl rfl hn) sh_0 (rt_0_2 hG) ?_
      refine x_cVv11 [.ref 2] (mt_X0_remember hn hG play_2 h) dX9_breaks_40 lk_RX9_101 (kl rfl hn) sh_46 rfl rfl (Nat.le_of_ble_eq_true rfl) (Rf_of rfl) (fun I6 L7 h => ?_)
      refine x_aload_n dX9_breaks_43 rfl ?_
      refine x_getr (j := 2) dX9_breaks_44 fk_RX9_20 (kl rfl hn) sh_0 (rt_0_2 hG) ?_
      refine x_iload_n dX9_breaks_47 rfl ?_
      refine x_iload_n dX9_breaks_48 rfl ?_
      refine x_cSi00 [.int v1, .int v2] (mt_X9_placeOf hn hG h) dX9_breaks_49 lk_RX9_93 rfl rfl (Nat.le_of_ble_eq_true rfl) (Rf_of rfl) (fun x8 h => ?_)
      refine x_cVi11 [.int x8] (mt_X2_breakPiece hn hG play_2 h) dX9_breaks_52 lk_RX9_105 (Py_k play_2 hn 0 rfl) (Py_s0 play_2) rfl rfl (Nat.le_of_ble_eq_true rfl) (Rf_of rfl) (fun x9 I10 L11 h => ?_)
      exact x_ireturn dX9_breaks_55 ⟨_, rfl, rfl, rfl, h⟩
    · have h := h.2 c5
      refine x_iconst (v := (-1)) dX9_breaks_30 ki_m1 ?_
      exact x_ireturn dX9_breaks_31 ⟨_, rfl, rfl, rfl, h⟩
abbrev rm_X9_buy : Room := { frames := 4, cells := 0, slots := 0, locals := 112 }
def wp_X9_buy (I : MI) (L : ML) (v1 : Int32) (v2 : Int32) (Q : Int32 → MI → ML → Prop) : Prop :=
    (wp_X1_hasCell 3 I v1 v2 (fun x1 => (((¬ x1 = 0 → (wp_X9_placeOf v1 v2 (fun x3 => ((vp_in x3 16 ∧ (((I 11 (ix x3)) < 9 → (wp_X0_remember 2 I L (fun I6 L7 => ((vp_in x3 16 ∧ (vp_in x3 16 ∧ (∀ I10, I10 = u2 I6 11 (ix x3) ((I6 11 (ix x3)) + 1) → (wp_X2_receive 2 I10 L7 x3 (fun I11 L12 => ((vp_in x3 16 ∧ Q (I11 11 (ix x3)) I11 L12))))))))))) ∧ (¬ (I 11 (ix x3)) < 9 → Q (-1) I L))))))) ∧ (x1 = 0 → Q (-1) I L)))))
set_option maxRecDepth 20000 in
theorem mt_X9_buy {E : Ev} {l : Launch} {n : Nat} {R : MR} (hn : 336 ≤ n) (hG : GRx R) {I : MI} {L : ML} {v1 : Int32} {v2 : Int32} {Q : Int32 → MI → ML → Prop} (h : wp_X9_buy I L v1 v2 Q) : MX E l rm_X9_buy yX9_buy cX9_buy 4 (some .int) [.ref 0, .int v1, .int v2] n I L R (Qi n R (P11 I L Q)) := by
  refine MX_of (ls := [(0, .ref 0), (1, .int v1), (2, .int v2)]) (by decide) (Nat.le_of_ble_eq_true rfl) rfl ?_
  unfold wp_X9_buy at h
  refine x_aload_n dX9_buy_0 rfl ?_
  refine x_getr (j := 2) dX9_buy_1 fk_RX9_20 (kl rfl hn) sh_0 (rt_0_2 hG) ?_
  refine x_getr (j := 3) dX9_buy_4 fk_RX9_66 (Py_k play_2 hn 0 rfl) (Py_s0 play_2) (Py_r0 hG play_2) ?_
  refine x_iload_n dX9_buy_7 rfl ?_
  refine x_iload_n dX9_buy_8 rfl ?_
  refine x_cVi00 [.int v1, .int v2] (mt_X1_hasCell hn hG (Py_plan play_2) h) dX9_buy_9 lk_RX9_89 (Pn_k (Py_plan play_2) hn 0 rfl) (Pn_s0 (Py_plan play_2)) rfl rfl (Nat.le_of_ble_eq_true rfl) (Rf_of rfl) (fun x1 h => ?_)
  refine x_if_ne dX9_buy_12 (tgt := 17) rfl ⟨fun c2 => ?_, fun c2 => ?_⟩
  · have h := h.1 c2
    refine x_iload_n dX9_buy_17 rfl ?_
    refine x_iload_n dX9_buy_18 rfl ?_
    refine x_cSi00 [.int v1, .int v2] (mt_X9_placeOf hn hG h) dX9_buy_19 lk_RX9_93 rfl rfl (Nat.le_of_ble_eq_true rfl) (Rf_of rfl) (fun x3 h => ?_)
    refine x_istore_n (ls' := [(3, .int x3), (0, .ref 0), (1, .int v1), (2, .int v2)]) dX9_buy_22 (Nat.le_of_ble_eq_true rfl) rfl ?_
    refine x_aload_n dX9_buy_23 rfl ?_
    refine x_getr (j := 2) dX9_buy_24 fk_RX9_20 (kl rfl hn) sh_0 (rt_0_2 hG) ?_
    refine x_getr (j := 3) dX9_buy_27 fk_RX9_66 (Py_k play_2 hn 0 rfl) (Py_s0 play_2) (Py_r0 hG play_2) ?_
    refine x_getr (j := 11) dX9_buy_30 fk_RX9_121 (Pn_k (Py_plan play_2) hn 0 rfl) (Pn_s0 (Py_plan play_2)) (Pn_r12 hG (Py_plan play_2)) ?_
    refine x_iload_n dX9_buy_33 rfl ?_
    obtain ⟨b4, h⟩ := h
    refine x_iaload dX9_buy_34 (Pn_k (Py_plan play_2) hn 8 rfl) (Pn_s8 (Py_plan play_2)) b4 ?_
    refine x_bipush (v := 9) dX9_buy_35 kb_9 ?_
    refine x_icmp_lt dX9_buy_37 (tgt := 42) rfl ⟨fun c5 => ?_, fun c5 => ?_⟩
    · have h := h.1 c5
      refine x_aload_n dX9_buy_42 rfl ?_
      refine x_getr (j := 46) dX9_buy_43 fk_RX9_30 (kl rfl hn) sh_0 (rt_0_4 hG) ?_
      refine x_aload_n dX9_buy_46 rfl ?_
      refine x_getr (j := 2) dX9_buy_47 fk_RX9_20 (kl rfl hn) sh_0 (rt_0_2 hG) ?_
      refine x_cVv11 [.ref 2] (mt_X0_remember hn hG play_2 h) dX9_buy_50 lk_RX9_101 (kl rfl hn) sh_46 rfl rfl (Nat.le_of_ble_eq_true rfl) (Rf_of rfl) (fun I6 L7 h => ?_)
      refine x_aload_n dX9_buy_53 rfl ?_
      refine x_getr (j := 2) dX9_buy_54 fk_RX9_20 (kl rfl hn) sh_0 (rt_0_2 hG) ?_
      refine x_getr (j := 3) dX9_buy_57 fk_RX9_66 (Py_k play_2 hn 0 rfl) (Py_s0 play_2) (Py_r0 hG play_2) ?_
      refine x_getr (j := 11) dX9_buy_60 fk_RX9_121 (Pn_k (Py_plan play_2) hn 0 rfl) (Pn_s0 (Py_plan play_2)) (Pn_r12 hG (Py_plan play_2)) ?_
      refine x_iload_n dX9_buy_63 rfl ?_
      refine x_dup2 dX9_buy_64 rfl rfl ?_
      obtain ⟨b8, h⟩ := h
      refine x_iaload dX9_buy_65 (Pn_k (Py_plan play_2) hn 8 rfl) (Pn_s8 (Py_plan play_2)) b8 ?_
      refine x_iconst (v := 1) dX9_buy_66 ki_1 ?_
      refine x_iadd dX9_buy_67 ?_
      obtain ⟨b9, h⟩ := h
      refine x_iastore dX9_buy_68 (Pn_k (Py_plan play_2) hn 8 rfl) (Pn_s8 (Py_plan play_2)) b9 (fun I10 eI10 => ?_)
      have h := h I10 eI10
      refine x_aload_n dX9_buy_69 rfl ?_
      refine x_getr (j := 2) dX9_buy_70 fk_RX9_20 (kl rfl hn) sh_0 (rt_0_2 hG) ?_
      refine x_iload_n dX9_buy_73 rfl ?_
      refine x_cVv11 [.int x3] (mt_X2_receive hn hG play_2 h) dX9_buy_74 lk_RX9_125 (Py_k play_2 hn 0 rfl) (Py_s0 play_2) rfl rfl (Nat.le_of_ble_eq_true rfl) (Rf_of rfl) (fun I11 L12 h => ?_)
      refine x_aload_n dX9_buy_77 rfl ?_
      refine x_getr (j := 2) dX9_buy_78 fk_RX9_20 (kl rfl hn) sh_0 (rt_0_2 hG) ?_
      refine x_getr (j := 3) dX9_buy_81 fk_RX9_66 (Py_k play_2 hn 0 rfl) (Py_s0 play_2) (Py_r0 hG play_2) ?_
      refine x_getr (j := 11) dX9_buy_84 fk_RX9_121 (Pn_k (Py_plan play_2) hn 0 rfl) (Pn_s0 (Py_plan play_2)) (Pn_r12 hG (Py_plan play_2)) ?_
      refine x_iload_n dX9_buy_87 rfl ?_
      obtain ⟨b13, h⟩ := h
      refine x_iaload dX9_buy_88 (Pn_k (Py_plan play_2) hn 8 rfl) (Pn_s8 (Py_plan play_2)) b13 ?_
      exact x_ireturn dX9_buy_89 ⟨_, rfl, rfl, rfl, h⟩
    · have h := h.2 c5
      refine x_iconst (v := (-1)) dX9_buy_40 ki_m1 ?_
      exact x_ireturn dX9_buy_41 ⟨_, rfl, rfl, rfl, h⟩
  · have h := h.2 c2
    refine x_iconst (v := (-1)) dX9_buy_15 ki_m1 ?_
    exact x_ireturn dX9_buy_16 ⟨_, rfl, rfl, rfl, h⟩
abbrev rm_X9_buys : Room := { frames := 4, cells := 0, slots := 0, locals := 99 }
def wp_X9_buys (I : MI) (L : ML) (v1 : Int32) (v2 : Int32) (Q : Int32 → MI → ML → Prop) : Prop :=
    (wp_X8_learnBuys 3 I L (fun I1 L2 => (((v1 < 0 → Q (-1) I1 L2) ∧ (¬ v1 < 0 → ((v1 < (I1 326 5) → ((v2 = 0 → (vp_in v1 72 ∧ (wp_X9_baseOf (I1 329 (ix v1)) (fun x7 => (Q x7 I1 L2))))) ∧ (¬ v2 = 0 → ((v2 = 1 → (vp_in v1 72 ∧ (wp_X9_partOf (I1 329 (ix v1)) (fun x10 => (Q x10 I1 L2))))) ∧ (¬ v2 = 1 → ((v2 = 2 → (vp_in v1 72 ∧ Q (I1 330 (ix v1)) I1 L2)) ∧ (¬ v2 = 2 → ((v2 = 3 → (vp_in v1 72 ∧ Q (I1 331 (ix v1)) I1 L2)) ∧ (¬ v2 = 3 → Q (-1) I1 L2))))))))) ∧ (¬ v1 < (I1 326 5) → Q (-1) I1 L2)))))))
set_option maxRecDepth 20000 in
theorem mt_X9_buys {E : Ev} {l : Launch} {n : Nat} {R : MR} (hn : 336 ≤ n) (hG : GRx R) {I : MI} {L : ML} {v1 : Int32} {v2 : Int32} {Q : Int32 → MI → ML → Prop} (h : wp_X9_buys I L v1 v2 Q) : MX E l rm_X9_buys yX9_buys cX9_buys 3 (some .int) [.ref 0, .int v1, .int v2] n I L R (Qi n R (P11 I L Q)) := by
  refine MX_of (ls := [(0, .ref 0), (1, .int v1), (2, .int v2)]) (by decide) (Nat.le_of_ble_eq_true rfl) rfl ?_
  unfold wp_X9_buys at h
  refine x_aload_n dX9_buys_0 rfl ?_
  refine x_getr (j := 326) dX9_buys_1 fk_RX9_51 (kl rfl hn) sh_0 (rt_0_7 hG) ?_
  refine x_aload_n dX9_buys_4 rfl ?_
  refine x_getr (j := 2) dX9_buys_5 fk_RX9_20 (kl rfl hn) sh_0 (rt_0_2 hG) ?_
  refine x_getr (j := 3) dX9_buys_8 fk_RX9_66 (Py_k play_2 hn 0 rfl) (Py_s0 play_2) (Py_r0 hG play_2) ?_
  refine x_cVv11 [.ref 3] (mt_X8_learnBuys hn hG (Py_plan play_2) h) dX9_buys_11 lk_RX9_269 (kl rfl hn) sh_326 rfl rfl (Nat.le_of_ble_eq_true rfl) (Rf_of rfl) (fun I1 L2 h => ?_)
  refine x_iload_n dX9_buys_14 rfl ?_
  refine x_if_lt dX9_buys_15 (tgt := 29) rfl ⟨fun c3 => ?_, fun c3 => ?_⟩
  · have h := h.1 c3
    refine x_iconst (v := (-1)) dX9_buys_29 ki_m1 ?_
    exact x_ireturn dX9_buys_30 ⟨_, rfl, rfl, rfl, h⟩
  · have h := h.2 c3
    refine x_iload_n dX9_buys_18 rfl ?_
    refine x_aload_n dX9_buys_19 rfl ?_
    refine x_getr (j := 326) dX9_buys_20 fk_RX9_51 (kl rfl hn) sh_0 (rt_0_7 hG) ?_
    refine x_geti dX9_buys_23 fk_RX9_272 (kl rfl hn) sh_326 ?_
    refine x_icmp_lt dX9_buys_26 (tgt := 31) rfl ⟨fun c4 => ?_, fun c4 => ?_⟩
    · have h := h.1 c4
      refine x_iload_n dX9_buys_31 rfl ?_
      rcases Classical.em (v2 = 0) with c5 | c5
      · have h := h.1 c5
        refine x_tabIn (tgt := 64) dX9_buys_32 (by rw [c5]; decide) (by rw [c5]; decide) (off := 32) (by rw [c5]; rfl) rfl ?_
        refine x_aload_n dX9_buys_64 rfl ?_
        refine x_getr (j := 326) dX9_buys_65 fk_RX9_51 (kl rfl hn) sh_0 (rt_0_7 hG) ?_
        refine x_getr (j := 329) dX9_buys_68 fk_RX9_275 (kl rfl hn) sh_326 (rt_326_2 hG) ?_
        refine x_iload_n dX9_buys_71 rfl ?_
        obtain ⟨b6, h⟩ := h
        refine x_iaload dX9_buys_72 (kl rfl hn) sh_329 b6 ?_
        refine x_cSi00 [.int (I1 329 (ix v1))] (mt_X9_baseOf hn hG h) dX9_buys_73 lk_RX9_227 rfl rfl (Nat.le_of_ble_eq_true rfl) (Rf_of rfl) (fun x7 h => ?_)
        exact x_ireturn dX9_buys_76 ⟨_, rfl, rfl, rfl, h⟩
      · have h := h.2 c5
        rcases Classical.em (v2 = 1) with c8 | c8
        · have h := h.1 c8
          refine x_tabIn (tgt := 77) dX9_buys_32 (by rw [c8]; decide) (by rw [c8]; decide) (off := 45) (by rw [c8]; rfl) rfl ?_
          refine x_aload_n dX9_buys_77 rfl ?_
          refine x_getr (j := 326) dX9_buys_78 fk_RX9_51 (kl rfl hn) sh_0 (rt_0_7 hG) ?_
          refine x_getr (j := 329) dX9_buys_81 fk_RX9_275 (kl rfl hn) sh_326 (rt_326_2 hG) ?_
          refine x_iload_n dX9_buys_84 rfl ?_
          obtain ⟨b9, h⟩ := h
          refine x_iaload dX9_buys_85 (kl rfl hn) sh_329 b9 ?_
          refine x_cSi00 [.int (I1 329 (ix v1))] (mt_X9_partOf hn hG h) dX9_buys_86 lk_RX9_230 rfl rfl (Nat.le_of_ble_eq_true rfl) (Rf_of rfl) (fun x10 h => ?_)
          exact x_ireturn dX9_buys_89 ⟨_, rfl, rfl, rfl, h⟩
        · have h := h.2 c8
          rcases Classical.em (v2 = 2) with c11 | c11
          · have h := h.1 c11
            refine x_tabIn (tgt := 90) dX9_buys_32 (by rw [c11]; decide) (by rw [c11]; decide) (off := 58) (by rw [c11]; rfl) rfl ?_
            refine x_aload_n dX9_buys_90 rfl ?_
            refine x_getr (j := 326) dX9_buys_91 fk_RX9_51 (kl rfl hn) sh_0 (rt_0_7 hG) ?_
            refine x_getr (j := 330) dX9_buys_94 fk_RX9_278 (kl rfl hn) sh_326 (rt_326_3 hG) ?_
            refine x_iload_n dX9_buys_97 rfl ?_
            obtain ⟨b12, h⟩ := h
            refine x_iaload dX9_buys_98 (kl rfl hn) sh_330 b12 ?_
            exact x_ireturn dX9_buys_99 ⟨_, rfl, rfl, rfl, h⟩
          · have h := h.2 c11
            rcases Classical.em (v2 = 3) with c13 | c13
            · have h := h.1 c13
              refine x_tabIn (tgt := 100) dX9_buys_32 (by rw [c13]; decide) (by rw [c13]; decide) (off := 68) (by rw [c13]; rfl) rfl ?_
              refine x_aload_n dX9_buys_100 rfl ?_
              refine x_getr (j := 326) dX9_buys_101 fk_RX9_51 (kl rfl hn) sh_0 (rt_0_7 hG) ?_
              refine x_getr (j := 331) dX9_buys_104 fk_RX9_281 (kl rfl hn) sh_326 (rt_326_4 hG) ?_
              refine x_iload_n dX9_buys_107 rfl ?_
              obtain ⟨b14, h⟩ := h
              refine x_iaload dX9_buys_108 (kl rfl hn) sh_331 b14 ?_
              exact x_ireturn dX9_buys_109 ⟨_, rfl, rfl, rfl, h⟩
            · have h := h.2 c13
              refine x_tabOut (tgt := 110) dX9_buys_32 (sw_out 3 rfl (sw_4 c5 c8 c11 c13)) rfl ?_
              refine x_iconst (v := (-1)) dX9_buys_110 ki_m1 ?_
              exact x_ireturn dX9_buys_111 ⟨_, rfl, rfl, rfl, h⟩
    · have h := h.2 c4
      refine x_iconst (v := (-1)) dX9_buys_29 ki_m1 ?_
      exact x_ireturn dX9_buys_30 ⟨_, rfl, rfl, rfl, h⟩
abbrev rm_X9_by : Room := { frames := 7, cells := 0, slots := 0, locals := 190 }
def jn_X9_by_97 (I : MI) (L : ML) (v1 : Int32) (v2 : Int32) (Q : Int32 → MI → ML → Prop) : Prop :=
    (wp_X9_lateBehindRun I L v1 v2 (fun x14 I15 L16 => (Q x14 I15 L16)))
set_option maxRecDepth 20000 in
theorem jnt_X9_by_97 {E : Ev} {l : Launch} {n : Nat} {R : MR} (hn : 336 ≤ n) (hG : GRx R) {I0 : MI} {L0 : ML} {Q : Int32 → MI → ML → Prop} {I : MI} {L : ML} {v1 : Int32} {v2 : Int32} (h : jn_X9_by_97 I L v1 v2 Q) : X E l rm_X9_by yX9_by cX9_by 5 (some .int) noX (ZM E rm_X9_by (Qi n R (P11 I0 L0 Q))) 97 [(0, .ref 0), (1, .int v1), (2, .int v2)] [] n I L R 0 0 := by
  unfold jn_X9_by_97 at h
  refine x_aload_n dX9_by_97 rfl ?_
  refine x_iload_n dX9_by_98 rfl ?_
  refine x_iload_n dX9_by_99 rfl ?_
  refine x_cVi11 [.int v1, .int v2] (mt_X9_lateBehindRun hn hG h) dX9_by_100 lk_RX9_315 (kl rfl hn) sh_0 rfl rfl (Nat.le_of_ble_eq_true rfl) (Rf_of rfl) (fun x14 I15 L16 h => ?_)
  exact x_ireturn dX9_by_103 ⟨_, rfl, rfl, rfl, h⟩
def wp_X9_by (I : MI) (L : ML) (v1 : Int32) (v2 : Int32) (v3 : Int32) (v4 : Int32) (Q : Int32 → MI → ML → Prop) : Prop :=
    (wp_X2_canGoBy 2 I v1 12 (fun x1 => (((x1 = 0 → Q (-1) I L) ∧ (¬ x1 = 0 → ((v3 < 0 → Q (-1) I L) ∧ (¬ v3 < 0 → ((v3 ≤ 2 → (wp_X9_whichWord v3 (fun x5 => ((wp_X7_fitsHouse I x5 v4 (fun x6 => (((¬ x6 = 0 → (wp_X2_copyFrom 24 2 I L (fun I8 L9 => (((¬ v3 = 0 → ((¬ v3 = 1 → (wp_X2_haveBenches 24 I8 L9 v4 (fun I12 L13 => ((jn_X9_by_97 I12 L13 v1 v2 Q))))) ∧ (v3 = 1 → (∀ I17, I17 = u2 I8 25 3 v4 → (jn_X9_by_97 I17 L9 v1 v2 Q))))) ∧ (v3 = 0 → (∀ I18, I18 = u2 I8 25 4 v4 → (jn_X9_by_97 I18 L9 v1 v2 Q)))))))) ∧ (x6 = 0 → Q (-1) I L))))))))) ∧ (¬ v3 ≤ 2 → Q (-1) I L)))))))))
set_option maxRecDepth 20000 in
theorem mt_X9_by {E : Ev} {l : Launch} {n : Nat} {R : MR} (hn : 336 ≤ n) (hG : GRx R) {I : MI} {L : ML} {v1 : Int32} {v2 : Int32} {v3 : Int32} {v4 : Int32} {Q : Int32 → MI → ML → Prop} (h : wp_X9_by I L v1 v2 v3 v4 Q) : MX E l rm_X9_by yX9_by cX9_by 5 (some .int) [.ref 0, .int v1, .int v2, .int v3, .int v4] n I L R (Qi n R (P11 I L Q)) := by
  refine MX_of (ls := [(0, .ref 0), (1, .int v1), (2, .int v2), (3, .int v3), (4, .int v4)]) (by decide) (Nat.le_of_ble_eq_true rfl) rfl ?_
  unfold wp_X9_by at h
  refine x_aload_n dX9_by_0 rfl ?_
  refine x_getr (j := 2) dX9_by_1 fk_RX9_20 (kl rfl hn) sh_0 (rt_0_2 hG) ?_
  refine x_iload_n dX9_by_4 rfl ?_
  refine x_bipush (v := 12) dX9_by_5 kb_12 ?_
  refine x_cVi00 [.int v1, .int 12] (mt_X2_canGoBy hn hG play_2 h) dX9_by_7 lk_RX9_109 (Py_k play_2 hn 0 rfl) (Py_s0 play_2) rfl rfl (Nat.le_of_ble_eq_true rfl) (Rf_of rfl) (fun x1 h => ?_)
  refine x_if_eq dX9_by_10 (tgt := 22) rfl ⟨fun c2 => ?_, fun c2 => ?_⟩
  · have h := h.1 c2
    refine x_iconst (v := (-1)) dX9_by_22 ki_m1 ?_
    exact x_ireturn dX9_by_23 ⟨_, rfl, rfl, rfl, h⟩
  · have h := h.2 c2
    refine x_iload_n dX9_by_13 rfl ?_
    refine x_if_lt dX9_by_14 (tgt := 22) rfl ⟨fun c3 => ?_, fun c3 => ?_⟩
    · have h := h.1 c3
      refine x_iconst (v := (-1)) dX9_by_22 ki_m1 ?_
      exact x_ireturn dX9_by_23 ⟨_, rfl, rfl, rfl, h⟩
    · have h := h.2 c3
      refine x_iload_n dX9_by_17 rfl ?_
      refine x_iconst (v := 2) dX9_by_18 ki_2 ?_
      refine x_icmp_le dX9_by_19 (tgt := 24) rfl ⟨fun c4 => ?_, fun c4 => ?_⟩
      · have h := h.1 c4
        refine x_iload_n dX9_by_24 rfl ?_
        refine x_cSi00 [.int v3] (mt_X9_whichWord hn hG h) dX9_by_25 lk_RX9_318 rfl rfl (Nat.le_of_ble_eq_true rfl) (Rf_of rfl) (fun x5 h => ?_)
        refine x_iload dX9_by_28 rfl ?_
        refine x_cSi00 [.int x5, .int v4] (mt_X7_fitsHouse hn hG h) dX9_by_30 lk_RX9_321 rfl rfl (Nat.le_of_ble_eq_true rfl) (Rf_of rfl) (fun x6 h => ?_)
        refine x_if_ne dX9_by_33 (tgt := 38) rfl ⟨fun c7 => ?_, fun c7 => ?_⟩
        · have h := h.1 c7
          refine x_aload_n dX9_by_38 rfl ?_
          refine x_getr (j := 24) dX9_by_39 fk_RX9_24 (kl rfl hn) sh_0 (rt_0_3 hG) ?_
          refine x_aload_n dX9_by_42 rfl ?_
          refine x_getr (j := 2) dX9_by_43 fk_RX9_20 (kl rfl hn) sh_0 (rt_0_2 hG) ?_
          refine x_cVv11 [.ref 2] (mt_X2_copyFrom hn hG play_24 play_2 h) dX9_by_46 lk_RX9_312 (Py_k play_24 hn 0 rfl) (Py_s0 play_24) rfl rfl (Nat.le_of_ble_eq_true rfl) (Rf_of rfl) (fun I8 L9 h => ?_)
          refine x_iload_n dX9_by_49 rfl ?_
          refine x_if_ne dX9_by_50 (tgt := 68) rfl ⟨fun c10 => ?_, fun c10 => ?_⟩
          · have h := h.1 c10
            refine x_iload_n dX9_by_68 rfl ?_
            refine x_iconst (v := 1) dX9_by_69 ki_1 ?_
            refine x_icmp_ne dX9_by_70 (tgt := 88) rfl ⟨fun c11 => ?_, fun c11 => ?_⟩
            · have h := h.1 c11
              refine x_aload_n dX9_by_88 rfl ?_
              refine x_getr (j := 24) dX9_by_89 fk_RX9_24 (kl rfl hn) sh_0 (rt_0_3 hG) ?_
              refine x_iload dX9_by_92 rfl ?_
              refine x_cVv11 [.int v4] (mt_X2_haveBenches hn hG play_24 h) dX9_by_94 lk_RX9_161 (Py_k play_24 hn 0 rfl) (Py_s0 play_24) rfl rfl (Nat.le_of_ble_eq_true rfl) (Rf_of rfl) (fun I12 L13 h => ?_)
              refine x_ls (ls' := [(0, .ref 0), (1, .int v1), (2, .int v2)]) [0, 1, 2] rfl ?_
              exact jnt_X9_by_97 hn hG  h
            · have h := h.2 c11
              refine x_aload_n dX9_by_73 rfl ?_
              refine x_getr (j := 24) dX9_by_74 fk_RX9_24 (kl rfl hn) sh_0 (rt_0_3 hG) ?_
              refine x_getr (j := 25) dX9_by_77 fk_RX9_66 (Py_k play_24 hn 0 rfl) (Py_s0 play_24) (Py_r0 hG play_24) ?_
              refine x_iload dX9_by_80 rfl ?_
              refine x_puti dX9_by_82 fk_RX9_164 fw_1_3 (vp_nar_int _) rfl (Pn_k (Py_plan play_24) hn 0 rfl) (Pn_s0 (Py_plan play_24)) (fun I17 eI17 => ?_)
              have h := h I17 eI17
              refine x_goto dX9_by_85 (tgt := 97) rfl ?_
              refine x_ls (ls' := [(0, .ref 0), (1, .int v1), (2, .int v2)]) [0, 1, 2] rfl ?_
              exact jnt_X9_by_97 hn hG  h
          · have h := h.2 c10
            refine x_aload_n dX9_by_53 rfl ?_
            refine x_getr (j := 24) dX9_by_54 fk_RX9_24 (kl rfl hn) sh_0 (rt_0_3 hG) ?_
            refine x_getr (j := 25) dX9_by_57 fk_RX9_66 (Py_k play_24 hn 0 rfl) (Py_s0 play_24) (Py_r0 hG play_24) ?_
            refine x_iload dX9_by_60 rfl ?_
            refine x_puti dX9_by_62 fk_RX9_167 fw_1_4 (vp_nar_int _) rfl (Pn_k (Py_plan play_24) hn 0 rfl) (Pn_s0 (Py_plan play_24)) (fun I18 eI18 => ?_)
            have h := h I18 eI18
            refine x_goto dX9_by_65 (tgt := 97) rfl ?_
            refine x_ls (ls' := [(0, .ref 0), (1, .int v1), (2, .int v2)]) [0, 1, 2] rfl ?_
            exact jnt_X9_by_97 hn hG  h
        · have h := h.2 c7
          refine x_iconst (v := (-1)) dX9_by_36 ki_m1 ?_
          exact x_ireturn dX9_by_37 ⟨_, rfl, rfl, rfl, h⟩
      · have h := h.2 c4
        refine x_iconst (v := (-1)) dX9_by_22 ki_m1 ?_
        exact x_ireturn dX9_by_23 ⟨_, rfl, rfl, rfl, h⟩
abbrev rm_X9_call : Room := { frames := 1, cells := 0, slots := 0, locals := 25 }
def wp_X9_call (I : MI) (L : ML) (v1 : Int32) (v2 : Int32) (v3 : Int32) (Q : Int32 → Prop) : Prop :=
    (wp_X1_hasPart 3 I v1 (fun x1 => (((¬ x1 = 0 → (wp_X4_findAt 20 184 I L 3 v1 v2 (fun x3 => (((¬ x3 = (-1) → (wp_X4_at 20 184 L x3 (fun x5 => (((v3 = 0 → (wp_X5_place x5 (fun x7 => ((wp_X9_baseOf x7 (fun x8 => (Q x8))))))) ∧ (¬ v3 = 0 → ((v3 = 1 → (wp_X5_day x5 (fun x10 => (Q x10)))) ∧ (¬ v3 = 1 → Q (-1))))))))) ∧ (x3 = (-1) → Q (-1))))))) ∧ (x1 = 0 → Q (-1))))))
set_option maxRecDepth 20000 in
theorem mt_X9_call {E : Ev} {l : Launch} {n : Nat} {R : MR} (hn : 336 ≤ n) (hG : GRx R) {I : MI} {L : ML} {v1 : Int32} {v2 : Int32} {v3 : Int32} {Q : Int32 → Prop} (h : wp_X9_call I L v1 v2 v3 Q) : MX E l rm_X9_call yX9_call cX9_call 7 (some .int) [.ref 0, .int v1, .int v2, .int v3] n I L R (Qi n R (P00 I L Q)) := by
  refine MX_of (ls := [(0, .ref 0), (1, .int v1), (2, .int v2), (3, .int v3)]) (by decide) (Nat.le_of_ble_eq_true rfl) rfl ?_
  unfold wp_X9_call at h
  refine x_aload_n dX9_call_0 rfl ?_
  refine x_getr (j := 2) dX9_call_1 fk_RX9_20 (kl rfl hn) sh_0 (rt_0_2 hG) ?_
  refine x_getr (j := 3) dX9_call_4 fk_RX9_66 (Py_k play_2 hn 0 rfl) (Py_s0 play_2) (Py_r0 hG play_2) ?_
  refine x_iload_n dX9_call_7 rfl ?_
  refine x_cVi00 [.int v1] (mt_X1_hasPart hn hG (Py_plan play_2) h) dX9_call_8 lk_RX9_131 (Pn_k (Py_plan play_2) hn 0 rfl) (Pn_s0 (Py_plan play_2)) rfl rfl (Nat.le_of_ble_eq_true rfl) (Rf_of rfl) (fun x1 h => ?_)
  refine x_if_ne dX9_call_11 (tgt := 16) rfl ⟨fun c2 => ?_, fun c2 => ?_⟩
  · have h := h.1 c2
    refine x_aload_n dX9_call_16 rfl ?_
    refine x_getr (j := 2) dX9_call_17 fk_RX9_20 (kl rfl hn) sh_0 (rt_0_2 hG) ?_
    refine x_getr (j := 20) dX9_call_20 fk_RX9_177 (Py_k play_2 hn 0 rfl) (Py_s0 play_2) (Py_r7 hG play_2) ?_
    refine x_iconst (v := 3) dX9_call_23 ki_3 ?_
    refine x_iload_n dX9_call_24 rfl ?_
    refine x_iload_n dX9_call_25 rfl ?_
    refine x_cVi00 [.int 3, .int v1, .int v2] (mt_X4_findAt hn hG (Py_calls play_2) h) dX9_call_26 lk_RX9_238 (Rw_k (Py_calls play_2) hn 0 rfl) (Rw_s0 (Py_calls play_2)) rfl rfl (Nat.le_of_ble_eq_true rfl) (Rf_of rfl) (fun x3 h => ?_)
    refine x_istore (ls' := [(4, .int x3), (0, .ref 0), (1, .int v1), (2, .int v2), (3, .int v3)]) dX9_call_29 (Nat.le_of_ble_eq_true rfl) rfl ?_
    refine x_iload dX9_call_31 rfl ?_
    refine x_iconst (v := (-1)) dX9_call_33 ki_m1 ?_
    refine x_icmp_ne dX9_call_34 (tgt := 39) rfl ⟨fun c4 => ?_, fun c4 => ?_⟩
    · have h := h.1 c4
      refine x_aload_n dX9_call_39 rfl ?_
      refine x_getr (j := 2) dX9_call_40 fk_RX9_20 (kl rfl hn) sh_0 (rt_0_2 hG) ?_
      refine x_getr (j := 20) dX9_call_43 fk_RX9_177 (Py_k play_2 hn 0 rfl) (Py_s0 play_2) (Py_r7 hG play_2) ?_
      refine x_iload dX9_call_46 rfl ?_
      refine x_cVl00 [.int x3] (mt_X4_at hn hG (Py_calls play_2) h) dX9_call_48 lk_RX9_217 (Rw_k (Py_calls play_2) hn 0 rfl) (Rw_s0 (Py_calls play_2)) rfl rfl (Nat.le_of_ble_eq_true rfl) (Rf_of rfl) (fun x5 h => ?_)
      refine x_lstore (ls' := [(5, .long x5), (4, .int x3), (0, .ref 0), (1, .int v1), (2, .int v2), (3, .int v3)]) dX9_call_51 (Nat.le_of_ble_eq_true rfl) rfl ?_
      refine x_iload_n dX9_call_53 rfl ?_
      rcases Classical.em (v3 = 0) with c6 | c6
      · have h := h.1 c6
        refine x_look (tgt := 80) (off := 26) dX9_call_54 rfl (by rw [c6]; rfl) rfl ?_
        refine x_lload dX9_call_80 rfl ?_
        refine x_cSi00 [.long x5] (mt_X5_place hn hG h) dX9_call_82 lk_RX9_221 rfl rfl (Nat.le_of_ble_eq_true rfl) (Rf_of rfl) (fun x7 h => ?_)
        refine x_cSi00 [.int x7] (mt_X9_baseOf hn hG h) dX9_call_85 lk_RX9_227 rfl rfl (Nat.le_of_ble_eq_true rfl) (Rf_of rfl) (fun x8 h => ?_)
        exact x_ireturn dX9_call_88 ⟨_, rfl, rfl, rfl, rfl, rfl, h⟩
      · have h := h.2 c6
        rcases Classical.em (v3 = 1) with c9 | c9
        · have h := h.1 c9
          refine x_look (tgt := 89) (off := 35) dX9_call_54 rfl (by rw [c9]; rfl) rfl ?_
          refine x_lload dX9_call_89 rfl ?_
          refine x_cSi00 [.long x5] (mt_X5_day hn hG h) dX9_call_91 lk_RX9_233 rfl rfl (Nat.le_of_ble_eq_true rfl) (Rf_of rfl) (fun x10 h => ?_)
          exact x_ireturn dX9_call_94 ⟨_, rfl, rfl, rfl, rfl, rfl, h⟩
        · have h := h.2 c9
          refine x_look (tgt := 95) dX9_call_54 rfl (by rw [lv_osw c6 (show (0 : Int32).toInt = 0 by decide), lv_osw c9 (show (1 : Int32).toInt = 1 by decide)]) rfl ?_
          refine x_iconst (v := (-1)) dX9_call_95 ki_m1 ?_
          exact x_ireturn dX9_call_96 ⟨_, rfl, rfl, rfl, rfl, rfl, h⟩
    · have h := h.2 c4
      refine x_iconst (v := (-1)) dX9_call_37 ki_m1 ?_
      exact x_ireturn dX9_call_38 ⟨_, rfl, rfl, rfl, rfl, rfl, h⟩
  · have h := h.2 c2
    refine x_iconst (v := (-1)) dX9_call_14 ki_m1 ?_
    exact x_ireturn dX9_call_15 ⟨_, rfl, rfl, rfl, rfl, rfl, h⟩
abbrev rm_X9_cell : Room := { frames := 2, cells := 0, slots := 0, locals := 48 }
def wp_X9_cell (I : MI) (L : ML) (v1 : Int32) (v2 : Int32) (v3 : Int32) (Q : Int32 → Prop) : Prop :=
    (wp_X1_hasCell 3 I v1 v2 (fun x1 => (((¬ x1 = 0 → (wp_X9_placeOf v1 v2 (fun x3 => (((v3 = 0 → (vp_in x3 16 ∧ Q (I 9 (ix x3)))) ∧ (¬ v3 = 0 → ((v3 = 1 → (vp_in x3 16 ∧ Q (I 10 (ix x3)))) ∧ (¬ v3 = 1 → ((v3 = 2 → (vp_in x3 16 ∧ Q (I 11 (ix x3)))) ∧ (¬ v3 = 2 → ((v3 = 3 → (vp_in x3 16 ∧ Q (I 12 (ix x3)))) ∧ (¬ v3 = 3 → ((v3 = 4 → (vp_in x3 16 ∧ Q (I 13 (ix x3)))) ∧ (¬ v3 = 4 → ((v3 = 5 → (wp_X4_countAt 20 184 I L 15 x3 (fun x15 => (Q x15)))) ∧ (¬ v3 = 5 → ((v3 = 6 → (wp_X2_waysOf 2 I L 24 15 x3 (fun x17 => (Q x17)))) ∧ (¬ v3 = 6 → ((v3 = 7 → (wp_X2_waysOf 2 I L 1 15 x3 (fun x19 => (Q x19)))) ∧ (¬ v3 = 7 → ((v3 = 8 → (vp_in x3 16 ∧ Q (I 14 (ix x3)))) ∧ (¬ v3 = 8 → Q (-1))))))))))))))))))))))) ∧ (x1 = 0 → ((¬ v3 = 8 → Q (-1)) ∧ (v3 = 8 → Q (-1000))))))))
set_option maxRecDepth 20000 in
theorem mt_X9_cell {E : Ev} {l : Launch} {n : Nat} {R : MR} (hn : 336 ≤ n) (hG : GRx R) {I : MI} {L : ML} {v1 : Int32} {v2 : Int32} {v3 : Int32} {Q : Int32 → Prop} (h : wp_X9_cell I L v1 v2 v3 Q) : MX E l rm_X9_cell yX9_cell cX9_cell 5 (some .int) [.ref 0, .int v1, .int v2, .int v3] n I L R (Qi n R (P00 I L Q)) := by
  refine MX_of (ls := [(0, .ref 0), (1, .int v1), (2, .int v2), (3, .int v3)]) (by decide) (Nat.le_of_ble_eq_true rfl) rfl ?_
  unfold wp_X9_cell at h
  refine x_aload_n dX9_cell_0 rfl ?_
  refine x_getr (j := 2) dX9_cell_1 fk_RX9_20 (kl rfl hn) sh_0 (rt_0_2 hG) ?_
  refine x_getr (j := 3) dX9_cell_4 fk_RX9_66 (Py_k play_2 hn 0 rfl) (Py_s0 play_2) (Py_r0 hG play_2) ?_
  refine x_iload_n dX9_cell_7 rfl ?_
  refine x_iload_n dX9_cell_8 rfl ?_
  refine x_cVi00 [.int v1, .int v2] (mt_X1_hasCell hn hG (Py_plan play_2) h) dX9_cell_9 lk_RX9_89 (Pn_k (Py_plan play_2) hn 0 rfl) (Pn_s0 (Py_plan play_2)) rfl rfl (Nat.le_of_ble_eq_true rfl) (Rf_of rfl) (fun x1 h => ?_)
  refine x_if_ne dX9_cell_12 (tgt := 29) rfl ⟨fun c2 => ?_, fun c2 => ?_⟩
  · have h := h.1 c2
    refine x_iload_n dX9_cell_29 rfl ?_
    refine x_iload_n dX9_cell_30 rfl ?_
    refine x_cSi00 [.int v1, .int v2] (mt_X9_placeOf hn hG h) dX9_cell_31 lk_RX9_93 rfl rfl (Nat.le_of_ble_eq_true rfl) (Rf_of rfl) (fun x3 h => ?_)
    refine x_istore (ls' := [(4, .int x3), (0, .ref 0), (1, .int v1), (2, .int v2), (3, .int v3)]) dX9_cell_34 (Nat.le_of_ble_eq_true rfl) rfl ?_
    refine x_iload_n dX9_cell_36 rfl ?_
    rcases Classical.em (v3 = 0) with c4 | c4
    · have h := h.1 c4
      refine x_tabIn (tgt := 88) dX9_cell_37 (by rw [c4]; decide) (by rw [c4]; decide) (off := 51) (by rw [c4]; rfl) rfl ?_
      refine x_aload_n dX9_cell_88 rfl ?_
      refine x_getr (j := 2) dX9_cell_89 fk_RX9_20 (kl rfl hn) sh_0 (rt_0_2 hG) ?_
      refine x_getr (j := 3) dX9_cell_92 fk_RX9_66 (Py_k play_2 hn 0 rfl) (Py_s0 play_2) (Py_r0 hG play_2) ?_
      refine x_getr (j := 9) dX9_cell_95 fk_RX9_205 (Pn_k (Py_plan play_2) hn 0 rfl) (Pn_s0 (Py_plan play_2)) (Pn_r10 hG (Py_plan play_2)) ?_
      refine x_iload dX9_cell_98 rfl ?_
      obtain ⟨b5, h⟩ := h
      refine x_iaload dX9_cell_100 (Pn_k (Py_plan play_2) hn 6 rfl) (Pn_s6 (Py_plan play_2)) b5 ?_
      exact x_ireturn dX9_cell_101 ⟨_, rfl, rfl, rfl, rfl, rfl, h⟩
    · have h := h.2 c4
      rcases Classical.em (v3 = 1) with c6 | c6
      · have h := h.1 c6
        refine x_tabIn (tgt := 102) dX9_cell_37 (by rw [c6]; decide) (by rw [c6]; decide) (off := 65) (by rw [c6]; rfl) rfl ?_
        refine x_aload_n dX9_cell_102 rfl ?_
        refine x_getr (j := 2) dX9_cell_103 fk_RX9_20 (kl rfl hn) sh_0 (rt_0_2 hG) ?_
        refine x_getr (j := 3) dX9_cell_106 fk_RX9_66 (Py_k play_2 hn 0 rfl) (Py_s0 play_2) (Py_r0 hG play_2) ?_
        refine x_getr (j := 10) dX9_cell_109 fk_RX9_155 (Pn_k (Py_plan play_2) hn 0 rfl) (Pn_s0 (Py_plan play_2)) (Pn_r11 hG (Py_plan play_2)) ?_
        refine x_iload dX9_cell_112 rfl ?_
        obtain ⟨b7, h⟩ := h
        refine x_iaload dX9_cell_114 (Pn_k (Py_plan play_2) hn 7 rfl) (Pn_s7 (Py_plan play_2)) b7 ?_
        exact x_ireturn dX9_cell_115 ⟨_, rfl, rfl, rfl, rfl, rfl, h⟩
      · have h := h.2 c6
        rcases Classical.em (v3 = 2) with c8 | c8
        · have h := h.1 c8
          refine x_tabIn (tgt := 116) dX9_cell_37 (by rw [c8]; decide) (by rw [c8]; decide) (off := 79) (by rw [c8]; rfl) rfl ?_
          refine x_aload_n dX9_cell_116 rfl ?_
          refine x_getr (j := 2) dX9_cell_117 fk_RX9_20 (kl rfl hn) sh_0 (rt_0_2 hG) ?_
          refine x_getr (j := 3) dX9_cell_120 fk_RX9_66 (Py_k play_2 hn 0 rfl) (Py_s0 play_2) (Py_r0 hG play_2) ?_
          refine x_getr (j := 11) dX9_cell_123 fk_RX9_121 (Pn_k (Py_plan play_2) hn 0 rfl) (Pn_s0 (Py_plan play_2)) (Pn_r12 hG (Py_plan play_2)) ?_
          refine x_iload dX9_cell_126 rfl ?_
          obtain ⟨b9, h⟩ := h
          refine x_iaload dX9_cell_128 (Pn_k (Py_plan play_2) hn 8 rfl) (Pn_s8 (Py_plan play_2)) b9 ?_
          exact x_ireturn dX9_cell_129 ⟨_, rfl, rfl, rfl, rfl, rfl, h⟩
        · have h := h.2 c8
          rcases Classical.em (v3 = 3) with c10 | c10
          · have h := h.1 c10
            refine x_tabIn (tgt := 130) dX9_cell_37 (by rw [c10]; decide) (by rw [c10]; decide) (off := 93) (by rw [c10]; rfl) rfl ?_
            refine x_aload_n dX9_cell_130 rfl ?_
            refine x_getr (j := 2) dX9_cell_131 fk_RX9_20 (kl rfl hn) sh_0 (rt_0_2 hG) ?_
            refine x_getr (j := 12) dX9_cell_134 fk_RX9_128 (Py_k play_2 hn 0 rfl) (Py_s0 play_2) (Py_r1 hG play_2) ?_
            refine x_iload dX9_cell_137 rfl ?_
            obtain ⟨b11, h⟩ := h
            refine x_iaload dX9_cell_139 (Py_k play_2 hn 10 rfl) (Py_s10 play_2) b11 ?_
            exact x_ireturn dX9_cell_140 ⟨_, rfl, rfl, rfl, rfl, rfl, h⟩
          · have h := h.2 c10
            rcases Classical.em (v3 = 4) with c12 | c12
            · have h := h.1 c12
              refine x_tabIn (tgt := 141) dX9_cell_37 (by rw [c12]; decide) (by rw [c12]; decide) (off := 104) (by rw [c12]; rfl) rfl ?_
              refine x_aload_n dX9_cell_141 rfl ?_
              refine x_getr (j := 2) dX9_cell_142 fk_RX9_20 (kl rfl hn) sh_0 (rt_0_2 hG) ?_
              refine x_getr (j := 13) dX9_cell_145 fk_RX9_208 (Py_k play_2 hn 0 rfl) (Py_s0 play_2) (Py_r2 hG play_2) ?_
              refine x_iload dX9_cell_148 rfl ?_
              obtain ⟨b13, h⟩ := h
              refine x_iaload dX9_cell_150 (Py_k play_2 hn 11 rfl) (Py_s11 play_2) b13 ?_
              exact x_ireturn dX9_cell_151 ⟨_, rfl, rfl, rfl, rfl, rfl, h⟩
            · have h := h.2 c12
              rcases Classical.em (v3 = 5) with c14 | c14
              · have h := h.1 c14
                refine x_tabIn (tgt := 152) dX9_cell_37 (by rw [c14]; decide) (by rw [c14]; decide) (off := 115) (by rw [c14]; rfl) rfl ?_
                refine x_aload_n dX9_cell_152 rfl ?_
                refine x_getr (j := 2) dX9_cell_153 fk_RX9_20 (kl rfl hn) sh_0 (rt_0_2 hG) ?_
                refine x_getr (j := 20) dX9_cell_156 fk_RX9_177 (Py_k play_2 hn 0 rfl) (Py_s0 play_2) (Py_r7 hG play_2) ?_
                refine x_bipush (v := 15) dX9_cell_159 kb_15 ?_
                refine x_iload dX9_cell_161 rfl ?_
                refine x_cVi00 [.int 15, .int x3] (mt_X4_countAt hn hG (Py_calls play_2) h) dX9_cell_163 lk_RX9_181 (Rw_k (Py_calls play_2) hn 0 rfl) (Rw_s0 (Py_calls play_2)) rfl rfl (Nat.le_of_ble_eq_true rfl) (Rf_of rfl) (fun x15 h => ?_)
                exact x_ireturn dX9_cell_166 ⟨_, rfl, rfl, rfl, rfl, rfl, h⟩
              · have h := h.2 c14
                rcases Classical.em (v3 = 6) with c16 | c16
                · have h := h.1 c16
                  refine x_tabIn (tgt := 167) dX9_cell_37 (by rw [c16]; decide) (by rw [c16]; decide) (off := 130) (by rw [c16]; rfl) rfl ?_
                  refine x_aload_n dX9_cell_167 rfl ?_
                  refine x_getr (j := 2) dX9_cell_168 fk_RX9_20 (kl rfl hn) sh_0 (rt_0_2 hG) ?_
                  refine x_bipush (v := 24) dX9_cell_171 kb_24 ?_
                  refine x_bipush (v := 15) dX9_cell_173 kb_15 ?_
                  refine x_iload dX9_cell_175 rfl ?_
                  refine x_cVi00 [.int 24, .int 15, .int x3] (mt_X2_waysOf hn hG play_2 h) dX9_cell_177 lk_RX9_189 (Py_k play_2 hn 0 rfl) (Py_s0 play_2) rfl rfl (Nat.le_of_ble_eq_true rfl) (Rf_of rfl) (fun x17 h => ?_)
                  exact x_ireturn dX9_cell_180 ⟨_, rfl, rfl, rfl, rfl, rfl, h⟩
                · have h := h.2 c16
                  rcases Classical.em (v3 = 7) with c18 | c18
                  · have h := h.1 c18
                    refine x_tabIn (tgt := 181) dX9_cell_37 (by rw [c18]; decide) (by rw [c18]; decide) (off := 144) (by rw [c18]; rfl) rfl ?_
                    refine x_aload_n dX9_cell_181 rfl ?_
                    refine x_getr (j := 2) dX9_cell_182 fk_RX9_20 (kl rfl hn) sh_0 (rt_0_2 hG) ?_
                    refine x_iconst (v := 1) dX9_cell_185 ki_1 ?_
                    refine x_bipush (v := 15) dX9_cell_186 kb_15 ?_
                    refine x_iload dX9_cell_188 rfl ?_
                    refine x_cVi00 [.int 1, .int 15, .int x3] (mt_X2_waysOf hn hG play_2 h) dX9_cell_190 lk_RX9_189 (Py_k play_2 hn 0 rfl) (Py_s0 play_2) rfl rfl (Nat.le_of_ble_eq_true rfl) (Rf_of rfl) (fun x19 h => ?_)
                    exact x_ireturn dX9_cell_193 ⟨_, rfl, rfl, rfl, rfl, rfl, h⟩
                  · have h := h.2 c18
                    rcases Classical.em (v3 = 8) with c20 | c20
                    · have h := h.1 c20
                      refine x_tabIn (tgt := 194) dX9_cell_37 (by rw [c20]; decide) (by rw [c20]; decide) (off := 157) (by rw [c20]; rfl) rfl ?_
                      refine x_aload_n dX9_cell_194 rfl ?_
                      refine x_getr (j := 2) dX9_cell_195 fk_RX9_20 (kl rfl hn) sh_0 (rt_0_2 hG) ?_
                      refine x_getr (j := 14) dX9_cell_198 fk_RX9_211 (Py_k play_2 hn 0 rfl) (Py_s0 play_2) (Py_r3 hG play_2) ?_
                      refine x_iload dX9_cell_201 rfl ?_
                      obtain ⟨b21, h⟩ := h
                      refine x_iaload dX9_cell_203 (Py_k play_2 hn 12 rfl) (Py_s12 play_2) b21 ?_
                      exact x_ireturn dX9_cell_204 ⟨_, rfl, rfl, rfl, rfl, rfl, h⟩
                    · have h := h.2 c20
                      refine x_tabOut (tgt := 205) dX9_cell_37 (sw_out 8 rfl (sw_9 c4 c6 c8 c10 c12 c14 c16 c18 c20)) rfl ?_
                      refine x_iconst (v := (-1)) dX9_cell_205 ki_m1 ?_
                      exact x_ireturn dX9_cell_206 ⟨_, rfl, rfl, rfl, rfl, rfl, h⟩
  · have h := h.2 c2
    refine x_iload_n dX9_cell_15 rfl ?_
    refine x_bipush (v := 8) dX9_cell_16 kb_8 ?_
    refine x_icmp_ne dX9_cell_18 (tgt := 27) rfl ⟨fun c22 => ?_, fun c22 => ?_⟩
    · have h := h.1 c22
      refine x_iconst (v := (-1)) dX9_cell_27 ki_m1 ?_
      exact x_ireturn dX9_cell_28 ⟨_, rfl, rfl, rfl, rfl, rfl, h⟩
    · have h := h.2 c22
      refine x_sipush (v := (-1000)) dX9_cell_21 ks_m1000 ?_
      refine x_goto dX9_cell_24 (tgt := 28) rfl ?_
      exact x_ireturn dX9_cell_28 ⟨_, rfl, rfl, rfl, rfl, rfl, h⟩
abbrev rm_X9_count : Room := { frames := 1, cells := 0, slots := 0, locals := 22 }
def wp_X9_count (I : MI) (v1 : Int32) (Q : Int32 → Prop) : Prop :=
    ((v1 = 0 → Q (I 3 0)) ∧ (¬ v1 = 0 → ((v1 = 1 → Q (I 3 1)) ∧ (¬ v1 = 1 → ((v1 = 2 → Q (I 3 2)) ∧ (¬ v1 = 2 → ((v1 = 3 → Q (I 3 3)) ∧ (¬ v1 = 3 → ((v1 = 4 → Q (I 3 4)) ∧ (¬ v1 = 4 → ((v1 = 5 → Q (I 46 2)) ∧ (¬ v1 = 5 → ((v1 = 6 → Q (I 0 1)) ∧ (¬ v1 = 6 → ((v1 = 7 → (wp_X9_sum 9 16 I (fun x9 => (Q x9)))) ∧ (¬ v1 = 7 → ((v1 = 8 → (wp_X9_sum 11 16 I (fun x11 => (Q x11)))) ∧ (¬ v1 = 8 → ((v1 = 9 → Q (I 2 10)) ∧ (¬ v1 = 9 → Q (-1)))))))))))))))))))))
set_option maxRecDepth 20000 in
theorem mt_X9_count {E : Ev} {l : Launch} {n : Nat} {R : MR} (hn : 336 ≤ n) (hG : GRx R) {I : MI} {L : ML} {v1 : Int32} {Q : Int32 → Prop} (h : wp_X9_count I v1 Q) : MX E l rm_X9_count yX9_count cX9_count 2 (some .int) [.ref 0, .int v1] n I L R (Qi n R (P00 I L Q)) := by
  refine MX_of (ls := [(0, .ref 0), (1, .int v1)]) (by decide) (Nat.le_of_ble_eq_true rfl) rfl ?_
  unfold wp_X9_count at h
  refine x_iload_n dX9_count_0 rfl ?_
  rcases Classical.em (v1 = 0) with c1 | c1
  · have h := h.1 c1
    refine x_tabIn (tgt := 56) dX9_count_1 (by rw [c1]; decide) (by rw [c1]; decide) (off := 55) (by rw [c1]; rfl) rfl ?_
    refine x_aload_n dX9_count_56 rfl ?_
    refine x_getr (j := 2) dX9_count_57 fk_RX9_20 (kl rfl hn) sh_0 (rt_0_2 hG) ?_
    refine x_getr (j := 3) dX9_count_60 fk_RX9_66 (Py_k play_2 hn 0 rfl) (Py_s0 play_2) (Py_r0 hG play_2) ?_
    refine x_geti dX9_count_63 fk_RX9_86 (Pn_k (Py_plan play_2) hn 0 rfl) (Pn_s0 (Py_plan play_2)) ?_
    exact x_ireturn dX9_count_66 ⟨_, rfl, rfl, rfl, rfl, rfl, h⟩
  · have h := h.2 c1
    rcases Classical.em (v1 = 1) with c2 | c2
    · have h := h.1 c2
      refine x_tabIn (tgt := 67) dX9_count_1 (by rw [c2]; decide) (by rw [c2]; decide) (off := 66) (by rw [c2]; rfl) rfl ?_
      refine x_aload_n dX9_count_67 rfl ?_
      refine x_getr (j := 2) dX9_count_68 fk_RX9_20 (kl rfl hn) sh_0 (rt_0_2 hG) ?_
      refine x_getr (j := 3) dX9_count_71 fk_RX9_66 (Py_k play_2 hn 0 rfl) (Py_s0 play_2) (Py_r0 hG play_2) ?_
      refine x_geti dX9_count_74 fk_RX9_83 (Pn_k (Py_plan play_2) hn 0 rfl) (Pn_s0 (Py_plan play_2)) ?_
      exact x_ireturn dX9_count_77 ⟨_, rfl, rfl, rfl, rfl, rfl, h⟩
    · have h := h.2 c2
      rcases Classical.em (v1 = 2) with c3 | c3
      · have h := h.1 c3
        refine x_tabIn (tgt := 78) dX9_count_1 (by rw [c3]; decide) (by rw [c3]; decide) (off := 77) (by rw [c3]; rfl) rfl ?_
        refine x_aload_n dX9_count_78 rfl ?_
        refine x_getr (j := 2) dX9_count_79 fk_RX9_20 (kl rfl hn) sh_0 (rt_0_2 hG) ?_
        refine x_getr (j := 3) dX9_count_82 fk_RX9_66 (Py_k play_2 hn 0 rfl) (Py_s0 play_2) (Py_r0 hG play_2) ?_
        refine x_geti dX9_count_85 fk_RX9_158 (Pn_k (Py_plan play_2) hn 0 rfl) (Pn_s0 (Py_plan play_2)) ?_
        exact x_ireturn dX9_count_88 ⟨_, rfl, rfl, rfl, rfl, rfl, h⟩
      · have h := h.2 c3
        rcases Classical.em (v1 = 3) with c4 | c4
        · have h := h.1 c4
          refine x_tabIn (tgt := 89) dX9_count_1 (by rw [c4]; decide) (by rw [c4]; decide) (off := 88) (by rw [c4]; rfl) rfl ?_
          refine x_aload_n dX9_count_89 rfl ?_
          refine x_getr (j := 2) dX9_count_90 fk_RX9_20 (kl rfl hn) sh_0 (rt_0_2 hG) ?_
          refine x_getr (j := 3) dX9_count_93 fk_RX9_66 (Py_k play_2 hn 0 rfl) (Py_s0 play_2) (Py_r0 hG play_2) ?_
          refine x_geti dX9_count_96 fk_RX9_164 (Pn_k (Py_plan play_2) hn 0 rfl) (Pn_s0 (Py_plan play_2)) ?_
          exact x_ireturn dX9_count_99 ⟨_, rfl, rfl, rfl, rfl, rfl, h⟩
        · have h := h.2 c4
          rcases Classical.em (v1 = 4) with c5 | c5
          · have h := h.1 c5
            refine x_tabIn (tgt := 100) dX9_count_1 (by rw [c5]; decide) (by rw [c5]; decide) (off := 99) (by rw [c5]; rfl) rfl ?_
            refine x_aload_n dX9_count_100 rfl ?_
            refine x_getr (j := 2) dX9_count_101 fk_RX9_20 (kl rfl hn) sh_0 (rt_0_2 hG) ?_
            refine x_getr (j := 3) dX9_count_104 fk_RX9_66 (Py_k play_2 hn 0 rfl) (Py_s0 play_2) (Py_r0 hG play_2) ?_
            refine x_geti dX9_count_107 fk_RX9_167 (Pn_k (Py_plan play_2) hn 0 rfl) (Pn_s0 (Py_plan play_2)) ?_
            exact x_ireturn dX9_count_110 ⟨_, rfl, rfl, rfl, rfl, rfl, h⟩
          · have h := h.2 c5
            rcases Classical.em (v1 = 5) with c6 | c6
            · have h := h.1 c6
              refine x_tabIn (tgt := 111) dX9_count_1 (by rw [c6]; decide) (by rw [c6]; decide) (off := 110) (by rw [c6]; rfl) rfl ?_
              refine x_aload_n dX9_count_111 rfl ?_
              refine x_getr (j := 46) dX9_count_112 fk_RX9_30 (kl rfl hn) sh_0 (rt_0_4 hG) ?_
              refine x_geti dX9_count_115 fk_RX9_174 (kl rfl hn) sh_46 ?_
              exact x_ireturn dX9_count_118 ⟨_, rfl, rfl, rfl, rfl, rfl, h⟩
            · have h := h.2 c6
              rcases Classical.em (v1 = 6) with c7 | c7
              · have h := h.1 c7
                refine x_tabIn (tgt := 119) dX9_count_1 (by rw [c7]; decide) (by rw [c7]; decide) (off := 118) (by rw [c7]; rfl) rfl ?_
                refine x_aload_n dX9_count_119 rfl ?_
                refine x_geti dX9_count_120 fk_RX9_13 (kl rfl hn) sh_0 ?_
                exact x_ireturn dX9_count_123 ⟨_, rfl, rfl, rfl, rfl, rfl, h⟩
              · have h := h.2 c7
                rcases Classical.em (v1 = 7) with c8 | c8
                · have h := h.1 c8
                  refine x_tabIn (tgt := 124) dX9_count_1 (by rw [c8]; decide) (by rw [c8]; decide) (off := 123) (by rw [c8]; rfl) rfl ?_
                  refine x_aload_n dX9_count_124 rfl ?_
                  refine x_getr (j := 2) dX9_count_125 fk_RX9_20 (kl rfl hn) sh_0 (rt_0_2 hG) ?_
                  refine x_getr (j := 3) dX9_count_128 fk_RX9_66 (Py_k play_2 hn 0 rfl) (Py_s0 play_2) (Py_r0 hG play_2) ?_
                  refine x_getr (j := 9) dX9_count_131 fk_RX9_205 (Pn_k (Py_plan play_2) hn 0 rfl) (Pn_s0 (Py_plan play_2)) (Pn_r10 hG (Py_plan play_2)) ?_
                  refine x_cSi00 [.ref 9] (mt_X9_sum hn hG ⟨(Pn_k (Py_plan play_2) hn 6 rfl), (Pn_s6 (Py_plan play_2))⟩ h) dX9_count_134 lk_RX9_340 rfl rfl (Nat.le_of_ble_eq_true rfl) (Rf_of rfl) (fun x9 h => ?_)
                  exact x_ireturn dX9_count_137 ⟨_, rfl, rfl, rfl, rfl, rfl, h⟩
                · have h := h.2 c8
                  rcases Classical.em (v1 = 8) with c10 | c10
                  · have h := h.1 c10
                    refine x_tabIn (tgt := 138) dX9_count_1 (by rw [c10]; decide) (by rw [c10]; decide) (off := 137) (by rw [c10]; rfl) rfl ?_
                    refine x_aload_n dX9_count_138 rfl ?_
                    refine x_getr (j := 2) dX9_count_139 fk_RX9_20 (kl rfl hn) sh_0 (rt_0_2 hG) ?_
                    refine x_getr (j := 3) dX9_count_142 fk_RX9_66 (Py_k play_2 hn 0 rfl) (Py_s0 play_2) (Py_r0 hG play_2) ?_
                    refine x_getr (j := 11) dX9_count_145 fk_RX9_121 (Pn_k (Py_plan play_2) hn 0 rfl) (Pn_s0 (Py_plan play_2)) (Pn_r12 hG (Py_plan play_2)) ?_
                    refine x_cSi00 [.ref 11] (mt_X9_sum hn hG ⟨(Pn_k (Py_plan play_2) hn 8 rfl), (Pn_s8 (Py_plan play_2))⟩ h) dX9_count_148 lk_RX9_340 rfl rfl (Nat.le_of_ble_eq_true rfl) (Rf_of rfl) (fun x11 h => ?_)
                    exact x_ireturn dX9_count_151 ⟨_, rfl, rfl, rfl, rfl, rfl, h⟩
                  · have h := h.2 c10
                    rcases Classical.em (v1 = 9) with c12 | c12
                    · have h := h.1 c12
                      refine x_tabIn (tgt := 152) dX9_count_1 (by rw [c12]; decide) (by rw [c12]; decide) (off := 151) (by rw [c12]; rfl) rfl ?_
                      refine x_aload_n dX9_count_152 rfl ?_
                      refine x_getr (j := 2) dX9_count_153 fk_RX9_20 (kl rfl hn) sh_0 (rt_0_2 hG) ?_
                      refine x_geti dX9_count_156 fk_RX9_344 (Py_k play_2 hn 0 rfl) (Py_s0 play_2) ?_
                      exact x_ireturn dX9_count_159 ⟨_, rfl, rfl, rfl, rfl, rfl, h⟩
                    · have h := h.2 c12
                      refine x_tabOut (tgt := 160) dX9_count_1 (sw_out 9 rfl (sw_10 c1 c2 c3 c4 c5 c6 c7 c8 c10 c12)) rfl ?_
                      refine x_iconst (v := (-1)) dX9_count_160 ki_m1 ?_
                      exact x_ireturn dX9_count_161 ⟨_, rfl, rfl, rfl, rfl, rfl, h⟩
abbrev rm_X9_putFour : Room := { frames := 0, cells := 0, slots := 0, locals := 0 }
def jn_X9_putFour_40 (I : MI) (v2 : Int32) (kj3 : Int32 → MI → Prop) : Prop :=
    kj3 (v2 + (-8)) I
set_option maxRecDepth 20000 in
theorem jnt_X9_putFour_40 {E : Ev} {l : Launch} {n : Nat} {R : MR} (hn : 336 ≤ n) (hG : GRx R) {I0 : MI} {Q : MI → Prop} {I : MI} {L : ML} {v1 : Int32} {v2 : Int32} {kj3 : Int32 → MI → Prop}
    (hJ3 : ∀ (v2 : Int32) (I : MI), kj3 v2 I → X E l rm_X9_putFour yX9_putFour cX9_putFour 3 none noX (ZM E rm_X9_putFour (Qv n R (V10 I0 L Q))) 3 [(0, .ref 0), (1, .int v1), (2, .int v2)] [] n I L R 0 0) (h : jn_X9_putFour_40 I v2 kj3) : X E l rm_X9_putFour yX9_putFour cX9_putFour 3 none noX (ZM E rm_X9_putFour (Qv n R (V10 I0 L Q))) 40 [(0, .ref 0), (1, .int v1), (2, .int v2)] [] n I L R 0 0 := by
  unfold jn_X9_putFour_40 at h
  refine x_iinc (v := v2 + (-8)) (ls' := [(2, .int (v2 + (-8))), (0, .ref 0), (1, .int v1)]) dX9_putFour_40 rfl (congrArg (_ + ·) (by decide)) (Nat.le_of_ble_eq_true rfl) rfl ?_
  refine x_goto dX9_putFour_43 (tgt := 3) rfl ?_
  refine x_ls (ls' := [(0, .ref 0), (1, .int v1), (2, .int (v2 + (-8)))]) [1, 2, 0] rfl ?_
  exact hJ3 (v2 + (-8)) I h
def lp_X9_putFour_3 (v1 : Int32) (Q : MI → Prop) : Nat → Int32 → MI → Prop
  | 0, _, _ => False
  | n + 1, v2, I =>
    ((v2 < 0 → Q I) ∧ (¬ v2 < 0 → ((400 ≤ (I 0 1) → (jn_X9_putFour_40 I v2 (fun x3 I4 => (lp_X9_putFour_3 v1 Q n x3 I4)))) ∧ (¬ 400 ≤ (I 0 1) → (vp_in (I 0 1) 400 ∧ (∀ I6, I6 = u2 I 1 (ix (I 0 1)) (vp_nar .byte ((usr v1 v2).toInt8.toInt32)) → (∀ I7, I7 = u2 I6 0 1 ((I6 0 1) + 1) → (jn_X9_putFour_40 I7 v2 (fun x8 I9 => (lp_X9_putFour_3 v1 Q n x8 I9))))))))))
set_option maxRecDepth 20000 in
theorem lpt_X9_putFour_3 {E : Ev} {l : Launch} {n : Nat} {R : MR} (hn : 336 ≤ n) (hG : GRx R) {I0 : MI} {Q : MI → Prop} {v1 : Int32} {L : ML} : ∀ (N : Nat) (v2 : Int32) (I : MI), lp_X9_putFour_3 v1 Q N v2 I → X E l rm_X9_putFour yX9_putFour cX9_putFour 3 none noX (ZM E rm_X9_putFour (Qv n R (V10 I0 L Q))) 3 [(0, .ref 0), (1, .int v1), (2, .int v2)] [] n I L R 0 0 := by
  intro N
  induction N with
  | zero => intro v2 I h; exact False.elim h
  | succ N ih =>
    intro v2 I h
    unfold lp_X9_putFour_3 at h
    refine x_iload_n dX9_putFour_3 rfl ?_
    refine x_if_lt dX9_putFour_4 (tgt := 46) rfl ⟨fun c1 => ?_, fun c1 => ?_⟩
    · have h := h.1 c1
      exact x_return dX9_putFour_46 ⟨rfl, rfl, rfl, rfl, h⟩
    · have h := h.2 c1
      refine x_aload_n dX9_putFour_7 rfl ?_
      refine x_geti dX9_putFour_8 fk_RX9_13 (kl rfl hn) sh_0 ?_
      refine x_sipush (v := 400) dX9_putFour_11 ks_400 ?_
      refine x_icmp_ge dX9_putFour_14 (tgt := 40) rfl ⟨fun c2 => ?_, fun c2 => ?_⟩
      · have h := h.1 c2
        refine jnt_X9_putFour_40 hn hG (fun x3 I4 h => ?_) h
        exact ih x3 I4 h
      · have h := h.2 c2
        refine x_aload_n dX9_putFour_17 rfl ?_
        refine x_getr (j := 1) dX9_putFour_18 fk_RX9_9 (kl rfl hn) sh_0 (rt_0_0 hG) ?_
        refine x_aload_n dX9_putFour_21 rfl ?_
        refine x_geti dX9_putFour_22 fk_RX9_13 (kl rfl hn) sh_0 ?_
        refine x_iload_n dX9_putFour_25 rfl ?_
        refine x_iload_n dX9_putFour_26 rfl ?_
        refine x_iushr dX9_putFour_27 ?_
        refine x_i2b dX9_putFour_28 ?_
        obtain ⟨b5, h⟩ := h
        refine x_bastore dX9_putFour_29 (kl rfl hn) sh_1 b5 (fun I6 eI6 => ?_)
        have h := h I6 eI6
        refine x_aload_n dX9_putFour_30 rfl ?_
        refine x_dup dX9_putFour_31 rfl ?_
        refine x_geti dX9_putFour_32 fk_RX9_13 (kl rfl hn) sh_0 ?_
        refine x_iconst (v := 1) dX9_putFour_35 ki_1 ?_
        refine x_iadd dX9_putFour_36 ?_
        refine x_puti dX9_putFour_37 fk_RX9_13 fw_7_1 (vp_nar_int _) rfl (kl rfl hn) sh_0 (fun I7 eI7 => ?_)
        have h := h I7 eI7
        refine jnt_X9_putFour_40 hn hG (fun x8 I9 h => ?_) h
        exact ih x8 I9 h
def wp_X9_putFour (I : MI) (v1 : Int32) (Q : MI → Prop) : Prop :=
    (∃ N10, lp_X9_putFour_3 v1 Q N10 24 I)
set_option maxRecDepth 20000 in
theorem mt_X9_putFour {E : Ev} {l : Launch} {n : Nat} {R : MR} (hn : 336 ≤ n) (hG : GRx R) {I : MI} {L : ML} {v1 : Int32} {Q : MI → Prop} (h : wp_X9_putFour I v1 Q) : MX E l rm_X9_putFour yX9_putFour cX9_putFour 3 none [.ref 0, .int v1] n I L R (Qv n R (V10 I L Q)) := by
  refine MX_of (ls := [(0, .ref 0), (1, .int v1)]) (by decide) (Nat.le_of_ble_eq_true rfl) rfl ?_
  unfold wp_X9_putFour at h
  refine x_bipush (v := 24) dX9_putFour_0 kb_24 ?_
  refine x_istore_n (ls' := [(2, .int 24), (0, .ref 0), (1, .int v1)]) dX9_putFour_2 (Nat.le_of_ble_eq_true rfl) rfl ?_
  refine x_ls (ls' := [(0, .ref 0), (1, .int v1), (2, .int 24)]) [1, 2, 0] rfl ?_
  obtain ⟨N10, h⟩ := h
  exact lpt_X9_putFour_3 hn hG  N10 24 I h
abbrev rm_X9_feed : Room := { frames := 1, cells := 0, slots := 0, locals := 22 }
def wp_X9_feed (I : MI) (v1 : Int32) (v2 : Int32) (v3 : Int32) (v4 : Int32) (v5 : Int32) (Q : Int32 → MI → Prop) : Prop :=
    ((((I 0 1) + 20) ≤ 400 → (wp_X9_putFour I v1 (fun I2 => ((wp_X9_putFour I2 v2 (fun I3 => ((wp_X9_putFour I3 v3 (fun I4 => ((wp_X9_putFour I4 v4 (fun I5 => ((wp_X9_putFour I5 v5 (fun I6 => (Q (I6 0 1) I6)))))))))))))))) ∧ (¬ ((I 0 1) + 20) ≤ 400 → Q (-1) I))
set_option maxRecDepth 20000 in
theorem mt_X9_feed {E : Ev} {l : Launch} {n : Nat} {R : MR} (hn : 336 ≤ n) (hG : GRx R) {I : MI} {L : ML} {v1 : Int32} {v2 : Int32} {v3 : Int32} {v4 : Int32} {v5 : Int32} {Q : Int32 → MI → Prop} (h : wp_X9_feed I v1 v2 v3 v4 v5 Q) : MX E l rm_X9_feed yX9_feed cX9_feed 6 (some .int) [.ref 0, .int v1, .int v2, .int v3, .int v4, .int v5] n I L R (Qi n R (P10 I L Q)) := by
  refine MX_of (ls := [(0, .ref 0), (1, .int v1), (2, .int v2), (3, .int v3), (4, .int v4), (5, .int v5)]) (by decide) (Nat.le_of_ble_eq_true rfl) rfl ?_
  unfold wp_X9_feed at h
  refine x_aload_n dX9_feed_0 rfl ?_
  refine x_geti dX9_feed_1 fk_RX9_13 (kl rfl hn) sh_0 ?_
  refine x_bipush (v := 20) dX9_feed_4 kb_20 ?_
  refine x_iadd dX9_feed_6 ?_
  refine x_sipush (v := 400) dX9_feed_7 ks_400 ?_
  refine x_icmp_le dX9_feed_10 (tgt := 15) rfl ⟨fun c1 => ?_, fun c1 => ?_⟩
  · have h := h.1 c1
    refine x_aload_n dX9_feed_15 rfl ?_
    refine x_iload_n dX9_feed_16 rfl ?_
    refine x_cVv10 [.int v1] (mt_X9_putFour hn hG h) dX9_feed_17 lk_RX9_58 (kl rfl hn) sh_0 rfl rfl (Nat.le_of_ble_eq_true rfl) (Rf_of rfl) (fun I2 h => ?_)
    refine x_aload_n dX9_feed_20 rfl ?_
    refine x_iload_n dX9_feed_21 rfl ?_
    refine x_cVv10 [.int v2] (mt_X9_putFour hn hG h) dX9_feed_22 lk_RX9_58 (kl rfl hn) sh_0 rfl rfl (Nat.le_of_ble_eq_true rfl) (Rf_of rfl) (fun I3 h => ?_)
    refine x_aload_n dX9_feed_25 rfl ?_
    refine x_iload_n dX9_feed_26 rfl ?_
    refine x_cVv10 [.int v3] (mt_X9_putFour hn hG h) dX9_feed_27 lk_RX9_58 (kl rfl hn) sh_0 rfl rfl (Nat.le_of_ble_eq_true rfl) (Rf_of rfl) (fun I4 h => ?_)
    refine x_aload_n dX9_feed_30 rfl ?_
    refine x_iload dX9_feed_31 rfl ?_
    refine x_cVv10 [.int v4] (mt_X9_putFour hn hG h) dX9_feed_33 lk_RX9_58 (kl rfl hn) sh_0 rfl rfl (Nat.le_of_ble_eq_true rfl) (Rf_of rfl) (fun I5 h => ?_)
    refine x_aload_n dX9_feed_36 rfl ?_
    refine x_iload dX9_feed_37 rfl ?_
    refine x_cVv10 [.int v5] (mt_X9_putFour hn hG h) dX9_feed_39 lk_RX9_58 (kl rfl hn) sh_0 rfl rfl (Nat.le_of_ble_eq_true rfl) (Rf_of rfl) (fun I6 h => ?_)
    refine x_aload_n dX9_feed_42 rfl ?_
    refine x_geti dX9_feed_43 fk_RX9_13 (kl rfl hn) sh_0 ?_
    exact x_ireturn dX9_feed_46 ⟨_, rfl, rfl, rfl, rfl, h⟩
  · have h := h.2 c1
    refine x_iconst (v := (-1)) dX9_feed_13 ki_m1 ?_
    exact x_ireturn dX9_feed_14 ⟨_, rfl, rfl, rfl, rfl, h⟩
abbrev rm_X9_keep : Room := { frames := 4, cells := 0, slots := 0, locals := 112 }
def wp_X9_keep (I : MI) (L : ML) (v1 : Int32) (Q : Int32 → MI → ML → Prop) : Prop :=
    ((v1 < 0 → Q (-1) I L) ∧ (¬ v1 < 0 → ((4 < v1 → Q (-1) I L) ∧ (¬ 4 < v1 → ((¬ v1 = (I 3 3) → (wp_X0_remember 2 I L (fun I4 L5 => ((∀ I6, I6 = u2 I4 3 3 v1 → Q (I 3 3) I6 L5))))) ∧ (v1 = (I 3 3) → Q (-1) I L))))))
set_option maxRecDepth 20000 in
theorem mt_X9_keep {E : Ev} {l : Launch} {n : Nat} {R : MR} (hn : 336 ≤ n) (hG : GRx R) {I : MI} {L : ML} {v1 : Int32} {Q : Int32 → MI → ML → Prop} (h : wp_X9_keep I L v1 Q) : MX E l rm_X9_keep yX9_keep cX9_keep 3 (some .int) [.ref 0, .int v1] n I L R (Qi n R (P11 I L Q)) := by
  refine MX_of (ls := [(0, .ref 0), (1, .int v1)]) (by decide) (Nat.le_of_ble_eq_true rfl) rfl ?_
  unfold wp_X9_keep at h
  refine x_aload_n dX9_keep_0 rfl ?_
  refine x_getr (j := 2) dX9_keep_1 fk_RX9_20 (kl rfl hn) sh_0 (rt_0_2 hG) ?_
  refine x_getr (j := 3) dX9_keep_4 fk_RX9_66 (Py_k play_2 hn 0 rfl) (Py_s0 play_2) (Py_r0 hG play_2) ?_
  refine x_geti dX9_keep_7 fk_RX9_164 (Pn_k (Py_plan play_2) hn 0 rfl) (Pn_s0 (Py_plan play_2)) ?_
  refine x_istore_n (ls' := [(2, .int (I 3 3)), (0, .ref 0), (1, .int v1)]) dX9_keep_10 (Nat.le_of_ble_eq_true rfl) rfl ?_
  refine x_iload_n dX9_keep_11 rfl ?_
  refine x_if_lt dX9_keep_12 (tgt := 25) rfl ⟨fun c1 => ?_, fun c1 => ?_⟩
  · have h := h.1 c1
    refine x_iconst (v := (-1)) dX9_keep_25 ki_m1 ?_
    exact x_ireturn dX9_keep_26 ⟨_, rfl, rfl, rfl, h⟩
  · have h := h.2 c1
    refine x_iload_n dX9_keep_15 rfl ?_
    refine x_iconst (v := 4) dX9_keep_16 ki_4 ?_
    refine x_icmp_gt dX9_keep_17 (tgt := 25) rfl ⟨fun c2 => ?_, fun c2 => ?_⟩
    · have h := h.1 c2
      refine x_iconst (v := (-1)) dX9_keep_25 ki_m1 ?_
      exact x_ireturn dX9_keep_26 ⟨_, rfl, rfl, rfl, h⟩
    · have h := h.2 c2
      refine x_iload_n dX9_keep_20 rfl ?_
      refine x_iload_n dX9_keep_21 rfl ?_
      refine x_icmp_ne dX9_keep_22 (tgt := 27) rfl ⟨fun c3 => ?_, fun c3 => ?_⟩
      · have h := h.1 c3
        refine x_aload_n dX9_keep_27 rfl ?_
        refine x_getr (j := 46) dX9_keep_28 fk_RX9_30 (kl rfl hn) sh_0 (rt_0_4 hG) ?_
        refine x_aload_n dX9_keep_31 rfl ?_
        refine x_getr (j := 2) dX9_keep_32 fk_RX9_20 (kl rfl hn) sh_0 (rt_0_2 hG) ?_
        refine x_cVv11 [.ref 2] (mt_X0_remember hn hG play_2 h) dX9_keep_35 lk_RX9_101 (kl rfl hn) sh_46 rfl rfl (Nat.le_of_ble_eq_true rfl) (Rf_of rfl) (fun I4 L5 h => ?_)
        refine x_aload_n dX9_keep_38 rfl ?_
        refine x_getr (j := 2) dX9_keep_39 fk_RX9_20 (kl rfl hn) sh_0 (rt_0_2 hG) ?_
        refine x_getr (j := 3) dX9_keep_42 fk_RX9_66 (Py_k play_2 hn 0 rfl) (Py_s0 play_2) (Py_r0 hG play_2) ?_
        refine x_iload_n dX9_keep_45 rfl ?_
        refine x_puti dX9_keep_46 fk_RX9_164 fw_1_3 (vp_nar_int _) rfl (Pn_k (Py_plan play_2) hn 0 rfl) (Pn_s0 (Py_plan play_2)) (fun I6 eI6 => ?_)
        have h := h I6 eI6
        refine x_iload_n dX9_keep_49 rfl ?_
        exact x_ireturn dX9_keep_50 ⟨_, rfl, rfl, rfl, h⟩
      · have h := h.2 c3
        refine x_iconst (v := (-1)) dX9_keep_25 ki_m1 ?_
        exact x_ireturn dX9_keep_26 ⟨_, rfl, rfl, rfl, h⟩
abbrev rm_X9_lack : Room := { frames := 3, cells := 0, slots := 0, locals := 71 }
def wp_X9_lack (I : MI) (L : ML) (v1 : Int32) (v2 : Int32) (v3 : Int32) (Q : Int64 → MI → ML → Prop) : Prop :=
    (wp_X1_hasCell 3 I v1 v2 (fun x1 => (((x1 = 0 → Q (-1) I L) ∧ (¬ x1 = 0 → ((v3 < 0 → Q (-1) I L) ∧ (¬ v3 < 0 → ((v3 ≤ 9 → (wp_X8_learnLack 3 I L (fun I5 L6 => ((wp_X9_placeOf v1 v2 (fun x7 => ((wp_X8_lackOf L6 x7 v3 (fun x8 => (Q x8 I5 L6)))))))))) ∧ (¬ v3 ≤ 9 → Q (-1) I L)))))))))
set_option maxRecDepth 20000 in
theorem mt_X9_lack {E : Ev} {l : Launch} {n : Nat} {R : MR} (hn : 336 ≤ n) (hG : GRx R) {I : MI} {L : ML} {v1 : Int32} {v2 : Int32} {v3 : Int32} {Q : Int64 → MI → ML → Prop} (h : wp_X9_lack I L v1 v2 v3 Q) : MX E l rm_X9_lack yX9_lack cX9_lack 4 (some .long) [.ref 0, .int v1, .int v2, .int v3] n I L R (Ql n R (P11 I L Q)) := by
  refine MX_of (ls := [(0, .ref 0), (1, .int v1), (2, .int v2), (3, .int v3)]) (by decide) (Nat.le_of_ble_eq_true rfl) rfl ?_
  unfold wp_X9_lack at h
  refine x_aload_n dX9_lack_0 rfl ?_
  refine x_getr (j := 2) dX9_lack_1 fk_RX9_20 (kl rfl hn) sh_0 (rt_0_2 hG) ?_
  refine x_getr (j := 3) dX9_lack_4 fk_RX9_66 (Py_k play_2 hn 0 rfl) (Py_s0 play_2) (Py_r0 hG play_2) ?_
  refine x_iload_n dX9_lack_7 rfl ?_
  refine x_iload_n dX9_lack_8 rfl ?_
  refine x_cVi00 [.int v1, .int v2] (mt_X1_hasCell hn hG (Py_plan play_2) h) dX9_lack_9 lk_RX9_89 (Pn_k (Py_plan play_2) hn 0 rfl) (Pn_s0 (Py_plan play_2)) rfl rfl (Nat.le_of_ble_eq_true rfl) (Rf_of rfl) (fun x1 h => ?_)
  refine x_if_eq dX9_lack_12 (tgt := 25) rfl ⟨fun c2 => ?_, fun c2 => ?_⟩
  · have h := h.1 c2
    refine x_ldc2 (v := -1) dX9_lack_25 kc_RX9_250 ?_
    exact x_lreturn dX9_lack_28 ⟨_, rfl, rfl, rfl, h⟩
  · have h := h.2 c2
    refine x_iload_n dX9_lack_15 rfl ?_
    refine x_if_lt dX9_lack_16 (tgt := 25) rfl ⟨fun c3 => ?_, fun c3 => ?_⟩
    · have h := h.1 c3
      refine x_ldc2 (v := -1) dX9_lack_25 kc_RX9_250 ?_
      exact x_lreturn dX9_lack_28 ⟨_, rfl, rfl, rfl, h⟩
    · have h := h.2 c3
      refine x_iload_n dX9_lack_19 rfl ?_
      refine x_bipush (v := 9) dX9_lack_20 kb_9 ?_
      refine x_icmp_le dX9_lack_22 (tgt := 29) rfl ⟨fun c4 => ?_, fun c4 => ?_⟩
      · have h := h.1 c4
        refine x_aload_n dX9_lack_29 rfl ?_
        refine x_getr (j := 326) dX9_lack_30 fk_RX9_51 (kl rfl hn) sh_0 (rt_0_7 hG) ?_
        refine x_aload_n dX9_lack_33 rfl ?_
        refine x_getr (j := 2) dX9_lack_34 fk_RX9_20 (kl rfl hn) sh_0 (rt_0_2 hG) ?_
        refine x_getr (j := 3) dX9_lack_37 fk_RX9_66 (Py_k play_2 hn 0 rfl) (Py_s0 play_2) (Py_r0 hG play_2) ?_
        refine x_cVv11 [.ref 3] (mt_X8_learnLack hn hG (Py_plan play_2) h) dX9_lack_40 lk_RX9_252 (kl rfl hn) sh_326 rfl rfl (Nat.le_of_ble_eq_true rfl) (Rf_of rfl) (fun I5 L6 h => ?_)
        refine x_aload_n dX9_lack_43 rfl ?_
        refine x_getr (j := 326) dX9_lack_44 fk_RX9_51 (kl rfl hn) sh_0 (rt_0_7 hG) ?_
        refine x_iload_n dX9_lack_47 rfl ?_
        refine x_iload_n dX9_lack_48 rfl ?_
        refine x_cSi00 [.int v1, .int v2] (mt_X9_placeOf hn hG h) dX9_lack_49 lk_RX9_93 rfl rfl (Nat.le_of_ble_eq_true rfl) (Rf_of rfl) (fun x7 h => ?_)
        refine x_iload_n dX9_lack_52 rfl ?_
        refine x_cVl00 [.int x7, .int v3] (mt_X8_lackOf hn hG h) dX9_lack_53 lk_RX9_259 (kl rfl hn) sh_326 rfl rfl (Nat.le_of_ble_eq_true rfl) (Rf_of rfl) (fun x8 h => ?_)
        exact x_lreturn dX9_lack_56 ⟨_, rfl, rfl, rfl, h⟩
      · have h := h.2 c4
        refine x_ldc2 (v := -1) dX9_lack_25 kc_RX9_250 ?_
        exact x_lreturn dX9_lack_28 ⟨_, rfl, rfl, rfl, h⟩
abbrev rm_X9_lacks : Room := { frames := 3, cells := 0, slots := 0, locals := 71 }
def wp_X9_lacks (I : MI) (L : ML) (Q : Int64 → MI → ML → Prop) : Prop :=
    (wp_X8_learnLack 3 I L (fun I1 L2 => ((wp_X8_lackBySpares 3 11 16 I1 L2 (fun x3 => (Q x3 I1 L2))))))
set_option maxRecDepth 20000 in
theorem mt_X9_lacks {E : Ev} {l : Launch} {n : Nat} {R : MR} (hn : 336 ≤ n) (hG : GRx R) {I : MI} {L : ML} {Q : Int64 → MI → ML → Prop} (h : wp_X9_lacks I L Q) : MX E l rm_X9_lacks yX9_lacks cX9_lacks 1 (some .long) [.ref 0] n I L R (Ql n R (P11 I L Q)) := by
  refine MX_of (ls := [(0, .ref 0)]) (by decide) (Nat.le_of_ble_eq_true rfl) rfl ?_
  unfold wp_X9_lacks at h
  refine x_aload_n dX9_lacks_0 rfl ?_
  refine x_getr (j := 326) dX9_lacks_1 fk_RX9_51 (kl rfl hn) sh_0 (rt_0_7 hG) ?_
  refine x_aload_n dX9_lacks_4 rfl ?_
  refine x_getr (j := 2) dX9_lacks_5 fk_RX9_20 (kl rfl hn) sh_0 (rt_0_2 hG) ?_
  refine x_getr (j := 3) dX9_lacks_8 fk_RX9_66 (Py_k play_2 hn 0 rfl) (Py_s0 play_2) (Py_r0 hG play_2) ?_
  refine x_cVv11 [.ref 3] (mt_X8_learnLack hn hG (Py_plan play_2) h) dX9_lacks_11 lk_RX9_252 (kl rfl hn) sh_326 rfl rfl (Nat.le_of_ble_eq_true rfl) (Rf_of rfl) (fun I1 L2 h => ?_)
  refine x_aload_n dX9_lacks_14 rfl ?_
  refine x_getr (j := 326) dX9_lacks_15 fk_RX9_51 (kl rfl hn) sh_0 (rt_0_7 hG) ?_
  refine x_aload_n dX9_lacks_18 rfl ?_
  refine x_getr (j := 2) dX9_lacks_19 fk_RX9_20 (kl rfl hn) sh_0 (rt_0_2 hG) ?_
  refine x_getr (j := 3) dX9_lacks_22 fk_RX9_66 (Py_k play_2 hn 0 rfl) (Py_s0 play_2) (Py_r0 hG play_2) ?_
  refine x_aload_n dX9_lacks_25 rfl ?_
  refine x_getr (j := 2) dX9_lacks_26 fk_RX9_20 (kl rfl hn) sh_0 (rt_0_2 hG) ?_
  refine x_getr (j := 3) dX9_lacks_29 fk_RX9_66 (Py_k play_2 hn 0 rfl) (Py_s0 play_2) (Py_r0 hG play_2) ?_
  refine x_getr (j := 11) dX9_lacks_32 fk_RX9_121 (Pn_k (Py_plan play_2) hn 0 rfl) (Pn_s0 (Py_plan play_2)) (Pn_r12 hG (Py_plan play_2)) ?_
  refine x_cVl00 [.ref 3, .ref 11] (mt_X8_lackBySpares hn hG (Py_plan play_2) ⟨(Pn_k (Py_plan play_2) hn 8 rfl), (Pn_s8 (Py_plan play_2))⟩ h) dX9_lacks_35 lk_RX9_262 (kl rfl hn) sh_326 rfl rfl (Nat.le_of_ble_eq_true rfl) (Rf_of rfl) (fun x3 h => ?_)
  exact x_lreturn dX9_lacks_38 ⟨_, rfl, rfl, rfl, h⟩
abbrev rm_X9_lacksBy : Room := { frames := 4, cells := 0, slots := 0, locals := 99 }
def wp_X9_lacksBy (I : MI) (L : ML) (v1 : Int32) (v2 : Int32) (Q : Int64 → MI → ML → Prop) : Prop :=
    (wp_X9_isPurse v1 (fun x1 => (((¬ x1 = 0 → ((v2 = 0 → (wp_X8_learnBuys 3 I L (fun I4 L5 => ((wp_X8_buysWithin I4 v1 (fun x6 => ((wp_X8_countBuys I4 x6 (fun I7 => ((wp_X8_lackBySpares 3 332 16 I7 L5 (fun x8 => (Q x8 I7 L5))))))))))))) ∧ (¬ v2 = 0 → (wp_X8_learnBest 3 I L (fun I9 L10 => ((vp_in v1 1000 ∧ Q (L10 333 (ix v1)) I9 L10))))))) ∧ (x1 = 0 → Q (-1) I L)))))
set_option maxRecDepth 20000 in
theorem mt_X9_lacksBy {E : Ev} {l : Launch} {n : Nat} {R : MR} (hn : 336 ≤ n) (hG : GRx R) {I : MI} {L : ML} {v1 : Int32} {v2 : Int32} {Q : Int64 → MI → ML → Prop} (h : wp_X9_lacksBy I L v1 v2 Q) : MX E l rm_X9_lacksBy yX9_lacksBy cX9_lacksBy 3 (some .long) [.ref 0, .int v1, .int v2] n I L R (Ql n R (P11 I L Q)) := by
  refine MX_of (ls := [(0, .ref 0), (1, .int v1), (2, .int v2)]) (by decide) (Nat.le_of_ble_eq_true rfl) rfl ?_
  unfold wp_X9_lacksBy at h
  refine x_iload_n dX9_lacksBy_0 rfl ?_
  refine x_cSi00 [.int v1] (mt_X9_isPurse hn hG h) dX9_lacksBy_1 lk_RX9_284 rfl rfl (Nat.le_of_ble_eq_true rfl) (Rf_of rfl) (fun x1 h => ?_)
  refine x_if_ne dX9_lacksBy_4 (tgt := 11) rfl ⟨fun c2 => ?_, fun c2 => ?_⟩
  · have h := h.1 c2
    refine x_iload_n dX9_lacksBy_11 rfl ?_
    refine x_if_eq dX9_lacksBy_12 (tgt := 39) rfl ⟨fun c3 => ?_, fun c3 => ?_⟩
    · have h := h.1 c3
      refine x_aload_n dX9_lacksBy_39 rfl ?_
      refine x_getr (j := 326) dX9_lacksBy_40 fk_RX9_51 (kl rfl hn) sh_0 (rt_0_7 hG) ?_
      refine x_aload_n dX9_lacksBy_43 rfl ?_
      refine x_getr (j := 2) dX9_lacksBy_44 fk_RX9_20 (kl rfl hn) sh_0 (rt_0_2 hG) ?_
      refine x_getr (j := 3) dX9_lacksBy_47 fk_RX9_66 (Py_k play_2 hn 0 rfl) (Py_s0 play_2) (Py_r0 hG play_2) ?_
      refine x_cVv11 [.ref 3] (mt_X8_learnBuys hn hG (Py_plan play_2) h) dX9_lacksBy_50 lk_RX9_269 (kl rfl hn) sh_326 rfl rfl (Nat.le_of_ble_eq_true rfl) (Rf_of rfl) (fun I4 L5 h => ?_)
      refine x_aload_n dX9_lacksBy_53 rfl ?_
      refine x_getr (j := 326) dX9_lacksBy_54 fk_RX9_51 (kl rfl hn) sh_0 (rt_0_7 hG) ?_
      refine x_aload_n dX9_lacksBy_57 rfl ?_
      refine x_getr (j := 326) dX9_lacksBy_58 fk_RX9_51 (kl rfl hn) sh_0 (rt_0_7 hG) ?_
      refine x_iload_n dX9_lacksBy_61 rfl ?_
      refine x_cVi00 [.int v1] (mt_X8_buysWithin hn hG h) dX9_lacksBy_62 lk_RX9_287 (kl rfl hn) sh_326 rfl rfl (Nat.le_of_ble_eq_true rfl) (Rf_of rfl) (fun x6 h => ?_)
      refine x_cVv10 [.int x6] (mt_X8_countBuys hn hG h) dX9_lacksBy_65 lk_RX9_300 (kl rfl hn) sh_326 rfl rfl (Nat.le_of_ble_eq_true rfl) (Rf_of rfl) (fun I7 h => ?_)
      refine x_aload_n dX9_lacksBy_68 rfl ?_
      refine x_getr (j := 326) dX9_lacksBy_69 fk_RX9_51 (kl rfl hn) sh_0 (rt_0_7 hG) ?_
      refine x_aload_n dX9_lacksBy_72 rfl ?_
      refine x_getr (j := 2) dX9_lacksBy_73 fk_RX9_20 (kl rfl hn) sh_0 (rt_0_2 hG) ?_
      refine x_getr (j := 3) dX9_lacksBy_76 fk_RX9_66 (Py_k play_2 hn 0 rfl) (Py_s0 play_2) (Py_r0 hG play_2) ?_
      refine x_aload_n dX9_lacksBy_79 rfl ?_
      refine x_getr (j := 326) dX9_lacksBy_80 fk_RX9_51 (kl rfl hn) sh_0 (rt_0_7 hG) ?_
      refine x_getr (j := 332) dX9_lacksBy_83 fk_RX9_303 (kl rfl hn) sh_326 (rt_326_6 hG) ?_
      refine x_cVl00 [.ref 3, .ref 332] (mt_X8_lackBySpares hn hG (Py_plan play_2) ⟨(kl rfl hn), sh_332⟩ h) dX9_lacksBy_86 lk_RX9_262 (kl rfl hn) sh_326 rfl rfl (Nat.le_of_ble_eq_true rfl) (Rf_of rfl) (fun x8 h => ?_)
      exact x_lreturn dX9_lacksBy_89 ⟨_, rfl, rfl, rfl, h⟩
    · have h := h.2 c3
      refine x_aload_n dX9_lacksBy_15 rfl ?_
      refine x_getr (j := 326) dX9_lacksBy_16 fk_RX9_51 (kl rfl hn) sh_0 (rt_0_7 hG) ?_
      refine x_aload_n dX9_lacksBy_19 rfl ?_
      refine x_getr (j := 2) dX9_lacksBy_20 fk_RX9_20 (kl rfl hn) sh_0 (rt_0_2 hG) ?_
      refine x_getr (j := 3) dX9_lacksBy_23 fk_RX9_66 (Py_k play_2 hn 0 rfl) (Py_s0 play_2) (Py_r0 hG play_2) ?_
      refine x_cVv11 [.ref 3] (mt_X8_learnBest hn hG (Py_plan play_2) h) dX9_lacksBy_26 lk_RX9_293 (kl rfl hn) sh_326 rfl rfl (Nat.le_of_ble_eq_true rfl) (Rf_of rfl) (fun I9 L10 h => ?_)
      refine x_aload_n dX9_lacksBy_29 rfl ?_
      refine x_getr (j := 326) dX9_lacksBy_30 fk_RX9_51 (kl rfl hn) sh_0 (rt_0_7 hG) ?_
      refine x_getr (j := 333) dX9_lacksBy_33 fk_RX9_296 (kl rfl hn) sh_326 (rt_326_7 hG) ?_
      refine x_iload_n dX9_lacksBy_36 rfl ?_
      obtain ⟨b11, h⟩ := h
      refine x_laload dX9_lacksBy_37 (kl rfl hn) sh_333 b11 ?_
      exact x_lreturn dX9_lacksBy_38 ⟨_, rfl, rfl, rfl, h⟩
  · have h := h.2 c2
    refine x_ldc2 (v := -1) dX9_lacksBy_7 kc_RX9_250 ?_
    exact x_lreturn dX9_lacksBy_10 ⟨_, rfl, rfl, rfl, h⟩
abbrev rm_X9_odds : Room := { frames := 4, cells := 0, slots := 0, locals := 112 }
def wp_X9_odds (I : MI) (L : ML) (v1 : Int32) (v2 : Int32) (v3 : Int32) (Q : Int32 → MI → ML → Prop) : Prop :=
    (wp_X1_hasCell 3 I v1 v2 (fun x1 => (((x1 = 0 → Q (-1) I L) ∧ (¬ x1 = 0 → ((v3 < 0 → Q (-1) I L) ∧ (¬ v3 < 0 → ((v3 ≤ 12 → (wp_X9_placeOf v1 v2 (fun x5 => ((vp_in x5 16 ∧ ((¬ (I 10 (ix x5)) = v3 → (wp_X0_remember 2 I L (fun I8 L9 => ((wp_X8_forget I8 (fun I10 => ((vp_in x5 16 ∧ (∀ I12, I12 = u2 I10 10 (ix x5) v3 → Q (I 10 (ix x5)) I12 L9))))))))) ∧ ((I 10 (ix x5)) = v3 → Q (-1) I L))))))) ∧ (¬ v3 ≤ 12 → Q (-1) I L)))))))))
set_option maxRecDepth 20000 in
theorem mt_X9_odds {E : Ev} {l : Launch} {n : Nat} {R : MR} (hn : 336 ≤ n) (hG : GRx R) {I : MI} {L : ML} {v1 : Int32} {v2 : Int32} {v3 : Int32} {Q : Int32 → MI → ML → Prop} (h : wp_X9_odds I L v1 v2 v3 Q) : MX E l rm_X9_odds yX9_odds cX9_odds 6 (some .int) [.ref 0, .int v1, .int v2, .int v3] n I L R (Qi n R (P11 I L Q)) := by
  refine MX_of (ls := [(0, .ref 0), (1, .int v1), (2, .int v2), (3, .int v3)]) (by decide) (Nat.le_of_ble_eq_true rfl) rfl ?_
  unfold wp_X9_odds at h
  refine x_aload_n dX9_odds_0 rfl ?_
  refine x_getr (j := 2) dX9_odds_1 fk_RX9_20 (kl rfl hn) sh_0 (rt_0_2 hG) ?_
  refine x_getr (j := 3) dX9_odds_4 fk_RX9_66 (Py_k play_2 hn 0 rfl) (Py_s0 play_2) (Py_r0 hG play_2) ?_
  refine x_iload_n dX9_odds_7 rfl ?_
  refine x_iload_n dX9_odds_8 rfl ?_
  refine x_cVi00 [.int v1, .int v2] (mt_X1_hasCell hn hG (Py_plan play_2) h) dX9_odds_9 lk_RX9_89 (Pn_k (Py_plan play_2) hn 0 rfl) (Pn_s0 (Py_plan play_2)) rfl rfl (Nat.le_of_ble_eq_true rfl) (Rf_of rfl) (fun x1 h => ?_)
  refine x_if_eq dX9_odds_12 (tgt := 25) rfl ⟨fun c2 => ?_, fun c2 => ?_⟩
  · have h := h.1 c2
    refine x_iconst (v := (-1)) dX9_odds_25 ki_m1 ?_
    exact x_ireturn dX9_odds_26 ⟨_, rfl, rfl, rfl, h⟩
  · have h := h.2 c2
    refine x_iload_n dX9_odds_15 rfl ?_
    refine x_if_lt dX9_odds_16 (tgt := 25) rfl ⟨fun c3 => ?_, fun c3 => ?_⟩
    · have h := h.1 c3
      refine x_iconst (v := (-1)) dX9_odds_25 ki_m1 ?_
      exact x_ireturn dX9_odds_26 ⟨_, rfl, rfl, rfl, h⟩
    · have h := h.2 c3
      refine x_iload_n dX9_odds_19 rfl ?_
      refine x_bipush (v := 12) dX9_odds_20 kb_12 ?_
      refine x_icmp_le dX9_odds_22 (tgt := 27) rfl ⟨fun c4 => ?_, fun c4 => ?_⟩
      · have h := h.1 c4
        refine x_iload_n dX9_odds_27 rfl ?_
        refine x_iload_n dX9_odds_28 rfl ?_
        refine x_cSi00 [.int v1, .int v2] (mt_X9_placeOf hn hG h) dX9_odds_29 lk_RX9_93 rfl rfl (Nat.le_of_ble_eq_true rfl) (Rf_of rfl) (fun x5 h => ?_)
        refine x_istore (ls' := [(4, .int x5), (0, .ref 0), (1, .int v1), (2, .int v2), (3, .int v3)]) dX9_odds_32 (Nat.le_of_ble_eq_true rfl) rfl ?_
        refine x_aload_n dX9_odds_34 rfl ?_
        refine x_getr (j := 2) dX9_odds_35 fk_RX9_20 (kl rfl hn) sh_0 (rt_0_2 hG) ?_
        refine x_getr (j := 3) dX9_odds_38 fk_RX9_66 (Py_k play_2 hn 0 rfl) (Py_s0 play_2) (Py_r0 hG play_2) ?_
        refine x_getr (j := 10) dX9_odds_41 fk_RX9_155 (Pn_k (Py_plan play_2) hn 0 rfl) (Pn_s0 (Py_plan play_2)) (Pn_r11 hG (Py_plan play_2)) ?_
        refine x_iload dX9_odds_44 rfl ?_
        obtain ⟨b6, h⟩ := h
        refine x_iaload dX9_odds_46 (Pn_k (Py_plan play_2) hn 7 rfl) (Pn_s7 (Py_plan play_2)) b6 ?_
        refine x_istore (ls' := [(5, .int (I 10 (ix x5))), (4, .int x5), (0, .ref 0), (1, .int v1), (2, .int v2), (3, .int v3)]) dX9_odds_47 (Nat.le_of_ble_eq_true rfl) rfl ?_
        refine x_iload dX9_odds_49 rfl ?_
        refine x_iload_n dX9_odds_51 rfl ?_
        refine x_icmp_ne dX9_odds_52 (tgt := 57) rfl ⟨fun c7 => ?_, fun c7 => ?_⟩
        · have h := h.1 c7
          refine x_aload_n dX9_odds_57 rfl ?_
          refine x_getr (j := 46) dX9_odds_58 fk_RX9_30 (kl rfl hn) sh_0 (rt_0_4 hG) ?_
          refine x_aload_n dX9_odds_61 rfl ?_
          refine x_getr (j := 2) dX9_odds_62 fk_RX9_20 (kl rfl hn) sh_0 (rt_0_2 hG) ?_
          refine x_cVv11 [.ref 2] (mt_X0_remember hn hG play_2 h) dX9_odds_65 lk_RX9_101 (kl rfl hn) sh_46 rfl rfl (Nat.le_of_ble_eq_true rfl) (Rf_of rfl) (fun I8 L9 h => ?_)
          refine x_aload_n dX9_odds_68 rfl ?_
          refine x_getr (j := 326) dX9_odds_69 fk_RX9_51 (kl rfl hn) sh_0 (rt_0_7 hG) ?_
          refine x_cVv10 [] (mt_X8_forget hn hG h) dX9_odds_72 lk_RX9_82 (kl rfl hn) sh_326 rfl rfl (Nat.le_of_ble_eq_true rfl) (Rf_of rfl) (fun I10 h => ?_)
          refine x_aload_n dX9_odds_75 rfl ?_
          refine x_getr (j := 2) dX9_odds_76 fk_RX9_20 (kl rfl hn) sh_0 (rt_0_2 hG) ?_
          refine x_getr (j := 3) dX9_odds_79 fk_RX9_66 (Py_k play_2 hn 0 rfl) (Py_s0 play_2) (Py_r0 hG play_2) ?_
          refine x_getr (j := 10) dX9_odds_82 fk_RX9_155 (Pn_k (Py_plan play_2) hn 0 rfl) (Pn_s0 (Py_plan play_2)) (Pn_r11 hG (Py_plan play_2)) ?_
          refine x_iload dX9_odds_85 rfl ?_
          refine x_iload_n dX9_odds_87 rfl ?_
          obtain ⟨b11, h⟩ := h
          refine x_iastore dX9_odds_88 (Pn_k (Py_plan play_2) hn 7 rfl) (Pn_s7 (Py_plan play_2)) b11 (fun I12 eI12 => ?_)
          have h := h I12 eI12
          refine x_iload dX9_odds_89 rfl ?_
          exact x_ireturn dX9_odds_91 ⟨_, rfl, rfl, rfl, h⟩
        · have h := h.2 c7
          refine x_iconst (v := (-1)) dX9_odds_55 ki_m1 ?_
          exact x_ireturn dX9_odds_56 ⟨_, rfl, rfl, rfl, h⟩
      · have h := h.2 c4
        refine x_iconst (v := (-1)) dX9_odds_25 ki_m1 ?_
        exact x_ireturn dX9_odds_26 ⟨_, rfl, rfl, rfl, h⟩
abbrev rm_X9_out : Room := { frames := 3, cells := 0, slots := 0, locals := 71 }
def wp_X9_out (I : MI) (L : ML) (v1 : Int32) (v2 : Int32) (v3 : Int32) (Q : Int64 → MI → ML → Prop) : Prop :=
    (wp_X1_hasCell 3 I v1 v2 (fun x1 => (((x1 = 0 → Q (-1) I L) ∧ (¬ x1 = 0 → ((v3 < 0 → Q (-1) I L) ∧ (¬ v3 < 0 → ((v3 ≤ 8 → (wp_X8_learnLack 3 I L (fun I5 L6 => ((wp_X9_placeOf v1 v2 (fun x7 => ((wp_X8_outOf L6 x7 v3 (fun x8 => (Q x8 I5 L6)))))))))) ∧ (¬ v3 ≤ 8 → Q (-1) I L)))))))))
set_option maxRecDepth 20000 in
theorem mt_X9_out {E : Ev} {l : Launch} {n : Nat} {R : MR} (hn : 336 ≤ n) (hG : GRx R) {I : MI} {L : ML} {v1 : Int32} {v2 : Int32} {v3 : Int32} {Q : Int64 → MI → ML → Prop} (h : wp_X9_out I L v1 v2 v3 Q) : MX E l rm_X9_out yX9_out cX9_out 4 (some .long) [.ref 0, .int v1, .int v2, .int v3] n I L R (Ql n R (P11 I L Q)) := by
  refine MX_of (ls := [(0, .ref 0), (1, .int v1), (2, .int v2), (3, .int v3)]) (by decide) (Nat.le_of_ble_eq_true rfl) rfl ?_
  unfold wp_X9_out at h
  refine x_aload_n dX9_out_0 rfl ?_
  refine x_getr (j := 2) dX9_out_1 fk_RX9_20 (kl rfl hn) sh_0 (rt_0_2 hG) ?_
  refine x_getr (j := 3) dX9_out_4 fk_RX9_66 (Py_k play_2 hn 0 rfl) (Py_s0 play_2) (Py_r0 hG play_2) ?_
  refine x_iload_n dX9_out_7 rfl ?_
  refine x_iload_n dX9_out_8 rfl ?_
  refine x_cVi00 [.int v1, .int v2] (mt_X1_hasCell hn hG (Py_plan play_2) h) dX9_out_9 lk_RX9_89 (Pn_k (Py_plan play_2) hn 0 rfl) (Pn_s0 (Py_plan play_2)) rfl rfl (Nat.le_of_ble_eq_true rfl) (Rf_of rfl) (fun x1 h => ?_)
  refine x_if_eq dX9_out_12 (tgt := 25) rfl ⟨fun c2 => ?_, fun c2 => ?_⟩
  · have h := h.1 c2
    refine x_ldc2 (v := -1) dX9_out_25 kc_RX9_250 ?_
    exact x_lreturn dX9_out_28 ⟨_, rfl, rfl, rfl, h⟩
  · have h := h.2 c2
    refine x_iload_n dX9_out_15 rfl ?_
    refine x_if_lt dX9_out_16 (tgt := 25) rfl ⟨fun c3 => ?_, fun c3 => ?_⟩
    · have h := h.1 c3
      refine x_ldc2 (v := -1) dX9_out_25 kc_RX9_250 ?_
      exact x_lreturn dX9_out_28 ⟨_, rfl, rfl, rfl, h⟩
    · have h := h.2 c3
      refine x_iload_n dX9_out_19 rfl ?_
      refine x_bipush (v := 8) dX9_out_20 kb_8 ?_
      refine x_icmp_le dX9_out_22 (tgt := 29) rfl ⟨fun c4 => ?_, fun c4 => ?_⟩
      · have h := h.1 c4
        refine x_aload_n dX9_out_29 rfl ?_
        refine x_getr (j := 326) dX9_out_30 fk_RX9_51 (kl rfl hn) sh_0 (rt_0_7 hG) ?_
        refine x_aload_n dX9_out_33 rfl ?_
        refine x_getr (j := 2) dX9_out_34 fk_RX9_20 (kl rfl hn) sh_0 (rt_0_2 hG) ?_
        refine x_getr (j := 3) dX9_out_37 fk_RX9_66 (Py_k play_2 hn 0 rfl) (Py_s0 play_2) (Py_r0 hG play_2) ?_
        refine x_cVv11 [.ref 3] (mt_X8_learnLack hn hG (Py_plan play_2) h) dX9_out_40 lk_RX9_252 (kl rfl hn) sh_326 rfl rfl (Nat.le_of_ble_eq_true rfl) (Rf_of rfl) (fun I5 L6 h => ?_)
        refine x_aload_n dX9_out_43 rfl ?_
        refine x_getr (j := 326) dX9_out_44 fk_RX9_51 (kl rfl hn) sh_0 (rt_0_7 hG) ?_
        refine x_iload_n dX9_out_47 rfl ?_
        refine x_iload_n dX9_out_48 rfl ?_
        refine x_cSi00 [.int v1, .int v2] (mt_X9_placeOf hn hG h) dX9_out_49 lk_RX9_93 rfl rfl (Nat.le_of_ble_eq_true rfl) (Rf_of rfl) (fun x7 h => ?_)
        refine x_iload_n dX9_out_52 rfl ?_
        refine x_cVl00 [.int x7, .int v3] (mt_X8_outOf hn hG h) dX9_out_53 lk_RX9_255 (kl rfl hn) sh_326 rfl rfl (Nat.le_of_ble_eq_true rfl) (Rf_of rfl) (fun x8 h => ?_)
        exact x_lreturn dX9_out_56 ⟨_, rfl, rfl, rfl, h⟩
      · have h := h.2 c4
        refine x_ldc2 (v := -1) dX9_out_25 kc_RX9_250 ?_
        exact x_lreturn dX9_out_28 ⟨_, rfl, rfl, rfl, h⟩
abbrev rm_X9_part : Room := { frames := 2, cells := 0, slots := 0, locals := 48 }
def jn_X9_part_68 (I : MI) (v1 : Int32) (v2 : Int32) (Q : Int32 → Prop) : Prop :=
    (wp_X1_ofPart 3 I v1 v2 (fun x4 => (Q x4)))
set_option maxRecDepth 20000 in
theorem jnt_X9_part_68 {E : Ev} {l : Launch} {n : Nat} {R : MR} (hn : 336 ≤ n) (hG : GRx R) {Q : Int32 → Prop} {I : MI} {L : ML} {v1 : Int32} {v2 : Int32} (h : jn_X9_part_68 I v1 v2 Q) : X E l rm_X9_part yX9_part cX9_part 3 (some .int) noX (ZM E rm_X9_part (Qi n R (P00 I L Q))) 68 [(0, .ref 0), (1, .int v1), (2, .int v2)] [] n I L R 0 0 := by
  unfold jn_X9_part_68 at h
  refine x_aload_n dX9_part_68 rfl ?_
  refine x_getr (j := 2) dX9_part_69 fk_RX9_20 (kl rfl hn) sh_0 (rt_0_2 hG) ?_
  refine x_getr (j := 3) dX9_part_72 fk_RX9_66 (Py_k play_2 hn 0 rfl) (Py_s0 play_2) (Py_r0 hG play_2) ?_
  refine x_iload_n dX9_part_75 rfl ?_
  refine x_iload_n dX9_part_76 rfl ?_
  refine x_cVi00 [.int v1, .int v2] (mt_X1_ofPart hn hG (Py_plan play_2) h) dX9_part_77 lk_RX9_148 (Pn_k (Py_plan play_2) hn 0 rfl) (Pn_s0 (Py_plan play_2)) rfl rfl (Nat.le_of_ble_eq_true rfl) (Rf_of rfl) (fun x4 h => ?_)
  exact x_ireturn dX9_part_80 ⟨_, rfl, rfl, rfl, rfl, rfl, h⟩
def wp_X9_part (I : MI) (L : ML) (v1 : Int32) (v2 : Int32) (Q : Int32 → Prop) : Prop :=
    (wp_X1_hasPart 3 I v1 (fun x1 => (((¬ x1 = 0 → ((v2 = 0 → (jn_X9_part_68 I v1 v2 Q)) ∧ (¬ v2 = 0 → ((v2 = 1 → (jn_X9_part_68 I v1 v2 Q)) ∧ (¬ v2 = 1 → ((v2 = 2 → (jn_X9_part_68 I v1 v2 Q)) ∧ (¬ v2 = 2 → ((v2 = 3 → (vp_in v1 4 ∧ Q (I 7 (ix v1)))) ∧ (¬ v2 = 3 → ((v2 = 4 → (vp_in v1 4 ∧ Q (I 15 (ix v1)))) ∧ (¬ v2 = 4 → ((v2 = 5 → (wp_X4_countAt 20 184 I L 3 v1 (fun x12 => (Q x12)))) ∧ (¬ v2 = 5 → ((v2 = 6 → (wp_X4_countAt 22 184 I L 3 v1 (fun x14 => (Q x14)))) ∧ (¬ v2 = 6 → ((v2 = 7 → (wp_X2_waysOf 2 I L 4 3 v1 (fun x16 => (Q x16)))) ∧ (¬ v2 = 7 → ((v2 = 8 → (wp_X2_waysOf 2 I L 2 3 v1 (fun x18 => (Q x18)))) ∧ (¬ v2 = 8 → Q (-1)))))))))))))))))))) ∧ (x1 = 0 → Q (-1))))))
set_option maxRecDepth 20000 in
theorem mt_X9_part {E : Ev} {l : Launch} {n : Nat} {R : MR} (hn : 336 ≤ n) (hG : GRx R) {I : MI} {L : ML} {v1 : Int32} {v2 : Int32} {Q : Int32 → Prop} (h : wp_X9_part I L v1 v2 Q) : MX E l rm_X9_part yX9_part cX9_part 3 (some .int) [.ref 0, .int v1, .int v2] n I L R (Qi n R (P00 I L Q)) := by
  refine MX_of (ls := [(0, .ref 0), (1, .int v1), (2, .int v2)]) (by decide) (Nat.le_of_ble_eq_true rfl) rfl ?_
  unfold wp_X9_part at h
  refine x_aload_n dX9_part_0 rfl ?_
  refine x_getr (j := 2) dX9_part_1 fk_RX9_20 (kl rfl hn) sh_0 (rt_0_2 hG) ?_
  refine x_getr (j := 3) dX9_part_4 fk_RX9_66 (Py_k play_2 hn 0 rfl) (Py_s0 play_2) (Py_r0 hG play_2) ?_
  refine x_iload_n dX9_part_7 rfl ?_
  refine x_cVi00 [.int v1] (mt_X1_hasPart hn hG (Py_plan play_2) h) dX9_part_8 lk_RX9_131 (Pn_k (Py_plan play_2) hn 0 rfl) (Pn_s0 (Py_plan play_2)) rfl rfl (Nat.le_of_ble_eq_true rfl) (Rf_of rfl) (fun x1 h => ?_)
  refine x_if_ne dX9_part_11 (tgt := 16) rfl ⟨fun c2 => ?_, fun c2 => ?_⟩
  · have h := h.1 c2
    refine x_iload_n dX9_part_16 rfl ?_
    rcases Classical.em (v2 = 0) with c3 | c3
    · have h := h.1 c3
      refine x_tabIn (tgt := 68) dX9_part_17 (by rw [c3]; decide) (by rw [c3]; decide) (off := 51) (by rw [c3]; rfl) rfl ?_
      exact jnt_X9_part_68 hn hG  h
    · have h := h.2 c3
      rcases Classical.em (v2 = 1) with c5 | c5
      · have h := h.1 c5
        refine x_tabIn (tgt := 68) dX9_part_17 (by rw [c5]; decide) (by rw [c5]; decide) (off := 51) (by rw [c5]; rfl) rfl ?_
        exact jnt_X9_part_68 hn hG  h
      · have h := h.2 c5
        rcases Classical.em (v2 = 2) with c6 | c6
        · have h := h.1 c6
          refine x_tabIn (tgt := 68) dX9_part_17 (by rw [c6]; decide) (by rw [c6]; decide) (off := 51) (by rw [c6]; rfl) rfl ?_
          exact jnt_X9_part_68 hn hG  h
        · have h := h.2 c6
          rcases Classical.em (v2 = 3) with c7 | c7
          · have h := h.1 c7
            refine x_tabIn (tgt := 81) dX9_part_17 (by rw [c7]; decide) (by rw [c7]; decide) (off := 64) (by rw [c7]; rfl) rfl ?_
            refine x_aload_n dX9_part_81 rfl ?_
            refine x_getr (j := 2) dX9_part_82 fk_RX9_20 (kl rfl hn) sh_0 (rt_0_2 hG) ?_
            refine x_getr (j := 3) dX9_part_85 fk_RX9_66 (Py_k play_2 hn 0 rfl) (Py_s0 play_2) (Py_r0 hG play_2) ?_
            refine x_getr (j := 7) dX9_part_88 fk_RX9_134 (Pn_k (Py_plan play_2) hn 0 rfl) (Pn_s0 (Py_plan play_2)) (Pn_r8 hG (Py_plan play_2)) ?_
            refine x_iload_n dX9_part_91 rfl ?_
            obtain ⟨b8, h⟩ := h
            refine x_iaload dX9_part_92 (Pn_k (Py_plan play_2) hn 4 rfl) (Pn_s4 (Py_plan play_2)) b8 ?_
            exact x_ireturn dX9_part_93 ⟨_, rfl, rfl, rfl, rfl, rfl, h⟩
          · have h := h.2 c7
            rcases Classical.em (v2 = 4) with c9 | c9
            · have h := h.1 c9
              refine x_tabIn (tgt := 94) dX9_part_17 (by rw [c9]; decide) (by rw [c9]; decide) (off := 77) (by rw [c9]; rfl) rfl ?_
              refine x_aload_n dX9_part_94 rfl ?_
              refine x_getr (j := 2) dX9_part_95 fk_RX9_20 (kl rfl hn) sh_0 (rt_0_2 hG) ?_
              refine x_getr (j := 15) dX9_part_98 fk_RX9_137 (Py_k play_2 hn 0 rfl) (Py_s0 play_2) (Py_r4 hG play_2) ?_
              refine x_iload_n dX9_part_101 rfl ?_
              obtain ⟨b10, h⟩ := h
              refine x_iaload dX9_part_102 (Py_k play_2 hn 13 rfl) (Py_s13 play_2) b10 ?_
              exact x_ireturn dX9_part_103 ⟨_, rfl, rfl, rfl, rfl, rfl, h⟩
            · have h := h.2 c9
              rcases Classical.em (v2 = 5) with c11 | c11
              · have h := h.1 c11
                refine x_tabIn (tgt := 104) dX9_part_17 (by rw [c11]; decide) (by rw [c11]; decide) (off := 87) (by rw [c11]; rfl) rfl ?_
                refine x_aload_n dX9_part_104 rfl ?_
                refine x_getr (j := 2) dX9_part_105 fk_RX9_20 (kl rfl hn) sh_0 (rt_0_2 hG) ?_
                refine x_getr (j := 20) dX9_part_108 fk_RX9_177 (Py_k play_2 hn 0 rfl) (Py_s0 play_2) (Py_r7 hG play_2) ?_
                refine x_iconst (v := 3) dX9_part_111 ki_3 ?_
                refine x_iload_n dX9_part_112 rfl ?_
                refine x_cVi00 [.int 3, .int v1] (mt_X4_countAt hn hG (Py_calls play_2) h) dX9_part_113 lk_RX9_181 (Rw_k (Py_calls play_2) hn 0 rfl) (Rw_s0 (Py_calls play_2)) rfl rfl (Nat.le_of_ble_eq_true rfl) (Rf_of rfl) (fun x12 h => ?_)
                exact x_ireturn dX9_part_116 ⟨_, rfl, rfl, rfl, rfl, rfl, h⟩
              · have h := h.2 c11
                rcases Classical.em (v2 = 6) with c13 | c13
                · have h := h.1 c13
                  refine x_tabIn (tgt := 117) dX9_part_17 (by rw [c13]; decide) (by rw [c13]; decide) (off := 100) (by rw [c13]; rfl) rfl ?_
                  refine x_aload_n dX9_part_117 rfl ?_
                  refine x_getr (j := 2) dX9_part_118 fk_RX9_20 (kl rfl hn) sh_0 (rt_0_2 hG) ?_
                  refine x_getr (j := 22) dX9_part_121 fk_RX9_186 (Py_k play_2 hn 0 rfl) (Py_s0 play_2) (Py_r8 hG play_2) ?_
                  refine x_iconst (v := 3) dX9_part_124 ki_3 ?_
                  refine x_iload_n dX9_part_125 rfl ?_
                  refine x_cVi00 [.int 3, .int v1] (mt_X4_countAt hn hG (Py_waiting play_2) h) dX9_part_126 lk_RX9_181 (Rw_k (Py_waiting play_2) hn 0 rfl) (Rw_s0 (Py_waiting play_2)) rfl rfl (Nat.le_of_ble_eq_true rfl) (Rf_of rfl) (fun x14 h => ?_)
                  exact x_ireturn dX9_part_129 ⟨_, rfl, rfl, rfl, rfl, rfl, h⟩
                · have h := h.2 c13
                  rcases Classical.em (v2 = 7) with c15 | c15
                  · have h := h.1 c15
                    refine x_tabIn (tgt := 130) dX9_part_17 (by rw [c15]; decide) (by rw [c15]; decide) (off := 113) (by rw [c15]; rfl) rfl ?_
                    refine x_aload_n dX9_part_130 rfl ?_
                    refine x_getr (j := 2) dX9_part_131 fk_RX9_20 (kl rfl hn) sh_0 (rt_0_2 hG) ?_
                    refine x_iconst (v := 4) dX9_part_134 ki_4 ?_
                    refine x_iconst (v := 3) dX9_part_135 ki_3 ?_
                    refine x_iload_n dX9_part_136 rfl ?_
                    refine x_cVi00 [.int 4, .int 3, .int v1] (mt_X2_waysOf hn hG play_2 h) dX9_part_137 lk_RX9_189 (Py_k play_2 hn 0 rfl) (Py_s0 play_2) rfl rfl (Nat.le_of_ble_eq_true rfl) (Rf_of rfl) (fun x16 h => ?_)
                    exact x_ireturn dX9_part_140 ⟨_, rfl, rfl, rfl, rfl, rfl, h⟩
                  · have h := h.2 c15
                    rcases Classical.em (v2 = 8) with c17 | c17
                    · have h := h.1 c17
                      refine x_tabIn (tgt := 141) dX9_part_17 (by rw [c17]; decide) (by rw [c17]; decide) (off := 124) (by rw [c17]; rfl) rfl ?_
                      refine x_aload_n dX9_part_141 rfl ?_
                      refine x_getr (j := 2) dX9_part_142 fk_RX9_20 (kl rfl hn) sh_0 (rt_0_2 hG) ?_
                      refine x_iconst (v := 2) dX9_part_145 ki_2 ?_
                      refine x_iconst (v := 3) dX9_part_146 ki_3 ?_
                      refine x_iload_n dX9_part_147 rfl ?_
                      refine x_cVi00 [.int 2, .int 3, .int v1] (mt_X2_waysOf hn hG play_2 h) dX9_part_148 lk_RX9_189 (Py_k play_2 hn 0 rfl) (Py_s0 play_2) rfl rfl (Nat.le_of_ble_eq_true rfl) (Rf_of rfl) (fun x18 h => ?_)
                      exact x_ireturn dX9_part_151 ⟨_, rfl, rfl, rfl, rfl, rfl, h⟩
                    · have h := h.2 c17
                      refine x_tabOut (tgt := 152) dX9_part_17 (sw_out 8 rfl (sw_9 c3 c5 c6 c7 c9 c11 c13 c15 c17)) rfl ?_
                      refine x_iconst (v := (-1)) dX9_part_152 ki_m1 ?_
                      exact x_ireturn dX9_part_153 ⟨_, rfl, rfl, rfl, rfl, rfl, h⟩
  · have h := h.2 c2
    refine x_iconst (v := (-1)) dX9_part_14 ki_m1 ?_
    exact x_ireturn dX9_part_15 ⟨_, rfl, rfl, rfl, rfl, rfl, h⟩
abbrev rm_X9_pass : Room := { frames := 5, cells := 0, slots := 0, locals := 140 }
def lp_X9_pass_28 (v1 : Int32) (Q : Int32 → MI → ML → Prop) : Nat → Int32 → MI → ML → Prop
  | 0, _, _, _ => False
  | n + 1, v2, I, L =>
    ((v1 ≤ v2 → Q (I 2 9) I L) ∧ (¬ v1 ≤ v2 → (wp_X2_goBy 2 I L (fun I6 L7 => ((lp_X9_pass_28 v1 Q n (v2 + 1) I6 L7))))))
set_option maxRecDepth 20000 in
theorem lpt_X9_pass_28 {E : Ev} {l : Launch} {n : Nat} {R : MR} (hn : 336 ≤ n) (hG : GRx R) {I0 : MI} {L0 : ML} {Q : Int32 → MI → ML → Prop} {v1 : Int32} : ∀ (N : Nat) (v2 : Int32) (I : MI) (L : ML), lp_X9_pass_28 v1 Q N v2 I L → X E l rm_X9_pass yX9_pass cX9_pass 3 (some .int) noX (ZM E rm_X9_pass (Qi n R (P11 I0 L0 Q))) 28 [(0, .ref 0), (1, .int v1), (2, .int v2)] [] n I L R 0 0 := by
  intro N
  induction N with
  | zero => intro v2 I L h; exact False.elim h
  | succ N ih =>
    intro v2 I L h
    unfold lp_X9_pass_28 at h
    refine x_iload_n dX9_pass_28 rfl ?_
    refine x_iload_n dX9_pass_29 rfl ?_
    refine x_icmp_ge dX9_pass_30 (tgt := 46) rfl ⟨fun c5 => ?_, fun c5 => ?_⟩
    · have h := h.1 c5
      refine x_aload_n dX9_pass_46 rfl ?_
      refine x_getr (j := 2) dX9_pass_47 fk_RX9_20 (kl rfl hn) sh_0 (rt_0_2 hG) ?_
      refine x_geti dX9_pass_50 fk_RX9_115 (Py_k play_2 hn 0 rfl) (Py_s0 play_2) ?_
      exact x_ireturn dX9_pass_53 ⟨_, rfl, rfl, rfl, h⟩
    · have h := h.2 c5
      refine x_aload_n dX9_pass_33 rfl ?_
      refine x_getr (j := 2) dX9_pass_34 fk_RX9_20 (kl rfl hn) sh_0 (rt_0_2 hG) ?_
      refine x_cVv11 [] (mt_X2_goBy hn hG play_2 h) dX9_pass_37 lk_RX9_112 (Py_k play_2 hn 0 rfl) (Py_s0 play_2) rfl rfl (Nat.le_of_ble_eq_true rfl) (Rf_of rfl) (fun I6 L7 h => ?_)
      refine x_iinc (v := v2 + 1) (ls' := [(2, .int (v2 + 1)), (0, .ref 0), (1, .int v1)]) dX9_pass_40 rfl (congrArg (_ + ·) ki_1) (Nat.le_of_ble_eq_true rfl) rfl ?_
      refine x_goto dX9_pass_43 (tgt := 28) rfl ?_
      refine x_ls (ls' := [(0, .ref 0), (1, .int v1), (2, .int (v2 + 1))]) [1, 2, 0] rfl ?_
      exact ih (v2 + 1) I6 L7 h
def wp_X9_pass (I : MI) (L : ML) (v1 : Int32) (Q : Int32 → MI → ML → Prop) : Prop :=
    (wp_X2_canGoBy 2 I v1 30 (fun x1 => (((¬ x1 = 0 → (wp_X0_remember 2 I L (fun I3 L4 => ((∃ N8, lp_X9_pass_28 v1 Q N8 0 I3 L4))))) ∧ (x1 = 0 → Q (-1) I L)))))
set_option maxRecDepth 20000 in
theorem mt_X9_pass {E : Ev} {l : Launch} {n : Nat} {R : MR} (hn : 336 ≤ n) (hG : GRx R) {I : MI} {L : ML} {v1 : Int32} {Q : Int32 → MI → ML → Prop} (h : wp_X9_pass I L v1 Q) : MX E l rm_X9_pass yX9_pass cX9_pass 3 (some .int) [.ref 0, .int v1] n I L R (Qi n R (P11 I L Q)) := by
  refine MX_of (ls := [(0, .ref 0), (1, .int v1)]) (by decide) (Nat.le_of_ble_eq_true rfl) rfl ?_
  unfold wp_X9_pass at h
  refine x_aload_n dX9_pass_0 rfl ?_
  refine x_getr (j := 2) dX9_pass_1 fk_RX9_20 (kl rfl hn) sh_0 (rt_0_2 hG) ?_
  refine x_iload_n dX9_pass_4 rfl ?_
  refine x_bipush (v := 30) dX9_pass_5 kb_30 ?_
  refine x_cVi00 [.int v1, .int 30] (mt_X2_canGoBy hn hG play_2 h) dX9_pass_7 lk_RX9_109 (Py_k play_2 hn 0 rfl) (Py_s0 play_2) rfl rfl (Nat.le_of_ble_eq_true rfl) (Rf_of rfl) (fun x1 h => ?_)
  refine x_if_ne dX9_pass_10 (tgt := 15) rfl ⟨fun c2 => ?_, fun c2 => ?_⟩
  · have h := h.1 c2
    refine x_aload_n dX9_pass_15 rfl ?_
    refine x_getr (j := 46) dX9_pass_16 fk_RX9_30 (kl rfl hn) sh_0 (rt_0_4 hG) ?_
    refine x_aload_n dX9_pass_19 rfl ?_
    refine x_getr (j := 2) dX9_pass_20 fk_RX9_20 (kl rfl hn) sh_0 (rt_0_2 hG) ?_
    refine x_cVv11 [.ref 2] (mt_X0_remember hn hG play_2 h) dX9_pass_23 lk_RX9_101 (kl rfl hn) sh_46 rfl rfl (Nat.le_of_ble_eq_true rfl) (Rf_of rfl) (fun I3 L4 h => ?_)
    refine x_iconst (v := 0) dX9_pass_26 ki_0 ?_
    refine x_istore_n (ls' := [(2, .int 0), (0, .ref 0), (1, .int v1)]) dX9_pass_27 (Nat.le_of_ble_eq_true rfl) rfl ?_
    refine x_ls (ls' := [(0, .ref 0), (1, .int v1), (2, .int 0)]) [1, 2, 0] rfl ?_
    obtain ⟨N8, h⟩ := h
    exact lpt_X9_pass_28 hn hG  N8 0 I3 L4 h
  · have h := h.2 c2
    refine x_iconst (v := (-1)) dX9_pass_13 ki_m1 ?_
    exact x_ireturn dX9_pass_14 ⟨_, rfl, rfl, rfl, h⟩
abbrev rm_X9_played : Room := { frames := 3, cells := 0, slots := 0, locals := 64 }
def wp_X9_played (I : MI) (L : ML) (v1 : Int32) (Q : Int32 → Prop) : Prop :=
    (wp_X2_tell 2 I L v1 (fun x1 => (Q x1)))
set_option maxRecDepth 20000 in
theorem mt_X9_played {E : Ev} {l : Launch} {n : Nat} {R : MR} (hn : 336 ≤ n) (hG : GRx R) {I : MI} {L : ML} {v1 : Int32} {Q : Int32 → Prop} (h : wp_X9_played I L v1 Q) : MX E l rm_X9_played yX9_played cX9_played 2 (some .int) [.ref 0, .int v1] n I L R (Qi n R (P00 I L Q)) := by
  refine MX_of (ls := [(0, .ref 0), (1, .int v1)]) (by decide) (Nat.le_of_ble_eq_true rfl) rfl ?_
  unfold wp_X9_played at h
  refine x_aload_n dX9_played_0 rfl ?_
  refine x_getr (j := 2) dX9_played_1 fk_RX9_20 (kl rfl hn) sh_0 (rt_0_2 hG) ?_
  refine x_iload_n dX9_played_4 rfl ?_
  refine x_cVi00 [.int v1] (mt_X2_tell hn hG play_2 h) dX9_played_5 lk_RX9_247 (Py_k play_2 hn 0 rfl) (Py_s0 play_2) rfl rfl (Nat.le_of_ble_eq_true rfl) (Rf_of rfl) (fun x1 h => ?_)
  exact x_ireturn dX9_played_8 ⟨_, rfl, rfl, rfl, rfl, rfl, h⟩
abbrev rm_X9_purseFor : Room := { frames := 4, cells := 0, slots := 0, locals := 94 }
def lp_X9_purseFor_42 (I : MI) (L : ML) (v2 : Int64) (Q : Int32 → MI → ML → Prop) : Nat → Int32 → Prop
  | 0, _ => False
  | n + 1, v4 =>
    ((99 < v4 → Q (-2) I L) ∧ (¬ 99 < v4 → (vp_in v4 1000 ∧ ((0 < (lg_cmp ((L 333 (ix v4)) * 100) v2) → (lp_X9_purseFor_42 I L v2 Q n (v4 + 1))) ∧ (¬ 0 < (lg_cmp ((L 333 (ix v4)) * 100) v2) → Q v4 I L)))))
set_option maxRecDepth 20000 in
theorem lpt_X9_purseFor_42 {E : Ev} {l : Launch} {n : Nat} {R : MR} (hn : 336 ≤ n) (hG : GRx R) {I0 : MI} {L0 : ML} {Q : Int32 → MI → ML → Prop} {I : MI} {L : ML} {v2 : Int64} : ∀ (N : Nat) (v4 : Int32), lp_X9_purseFor_42 I L v2 Q N v4 → X E l rm_X9_purseFor yX9_purseFor cX9_purseFor 5 (some .int) noX (ZM E rm_X9_purseFor (Qi n R (P11 I0 L0 Q))) 42 [(0, .ref 0), (2, .long v2), (4, .int v4)] [] n I L R 0 0 := by
  intro N
  induction N with
  | zero => intro v4 h; exact False.elim h
  | succ N ih =>
    intro v4 h
    unfold lp_X9_purseFor_42 at h
    refine x_iload dX9_purseFor_42 rfl ?_
    refine x_bipush (v := 99) dX9_purseFor_44 kb_99 ?_
    refine x_icmp_gt dX9_purseFor_46 (tgt := 77) rfl ⟨fun c6 => ?_, fun c6 => ?_⟩
    · have h := h.1 c6
      refine x_bipush (v := (-2)) dX9_purseFor_77 kb_m2 ?_
      exact x_ireturn dX9_purseFor_79 ⟨_, rfl, rfl, rfl, h⟩
    · have h := h.2 c6
      refine x_aload_n dX9_purseFor_49 rfl ?_
      refine x_getr (j := 326) dX9_purseFor_50 fk_RX9_51 (kl rfl hn) sh_0 (rt_0_7 hG) ?_
      refine x_getr (j := 333) dX9_purseFor_53 fk_RX9_296 (kl rfl hn) sh_326 (rt_326_7 hG) ?_
      refine x_iload dX9_purseFor_56 rfl ?_
      obtain ⟨b7, h⟩ := h
      refine x_laload dX9_purseFor_58 (kl rfl hn) sh_333 b7 ?_
      refine x_ldc2 (v := 100) dX9_purseFor_59 kc_RX9_310 ?_
      refine x_lmul dX9_purseFor_62 ?_
      refine x_lload_n dX9_purseFor_63 rfl ?_
      refine x_lcmp dX9_purseFor_64 ?_
      refine x_if_gt dX9_purseFor_65 (tgt := 71) rfl ⟨fun c8 => ?_, fun c8 => ?_⟩
      · have h := h.1 c8
        refine x_iinc (v := v4 + 1) (ls' := [(4, .int (v4 + 1)), (0, .ref 0), (2, .long v2)]) dX9_purseFor_71 rfl (congrArg (_ + ·) ki_1) (Nat.le_of_ble_eq_true rfl) rfl ?_
        refine x_goto dX9_purseFor_74 (tgt := 42) rfl ?_
        refine x_ls (ls' := [(0, .ref 0), (2, .long v2), (4, .int (v4 + 1))]) [1, 2, 0] rfl ?_
        exact ih (v4 + 1) h
      · have h := h.2 c8
        refine x_iload dX9_purseFor_68 rfl ?_
        exact x_ireturn dX9_purseFor_70 ⟨_, rfl, rfl, rfl, h⟩
def wp_X9_purseFor (I : MI) (L : ML) (v1 : Int32) (Q : Int32 → MI → ML → Prop) : Prop :=
    ((v1 < 0 → Q (-1) I L) ∧ (¬ v1 < 0 → ((v1 ≤ 100 → (wp_X8_learnBest 3 I L (fun I3 L4 => ((vp_in 0 1000 ∧ (∃ N9, lp_X9_purseFor_42 I3 L4 ((L4 333 (ix 0)) * v1.toInt64) Q N9 0)))))) ∧ (¬ v1 ≤ 100 → Q (-1) I L))))
set_option maxRecDepth 20000 in
theorem mt_X9_purseFor {E : Ev} {l : Launch} {n : Nat} {R : MR} (hn : 336 ≤ n) (hG : GRx R) {I : MI} {L : ML} {v1 : Int32} {Q : Int32 → MI → ML → Prop} (h : wp_X9_purseFor I L v1 Q) : MX E l rm_X9_purseFor yX9_purseFor cX9_purseFor 5 (some .int) [.ref 0, .int v1] n I L R (Qi n R (P11 I L Q)) := by
  refine MX_of (ls := [(0, .ref 0), (1, .int v1)]) (by decide) (Nat.le_of_ble_eq_true rfl) rfl ?_
  unfold wp_X9_purseFor at h
  refine x_iload_n dX9_purseFor_0 rfl ?_
  refine x_if_lt dX9_purseFor_1 (tgt := 10) rfl ⟨fun c1 => ?_, fun c1 => ?_⟩
  · have h := h.1 c1
    refine x_iconst (v := (-1)) dX9_purseFor_10 ki_m1 ?_
    exact x_ireturn dX9_purseFor_11 ⟨_, rfl, rfl, rfl, h⟩
  · have h := h.2 c1
    refine x_iload_n dX9_purseFor_4 rfl ?_
    refine x_bipush (v := 100) dX9_purseFor_5 kb_100 ?_
    refine x_icmp_le dX9_purseFor_7 (tgt := 12) rfl ⟨fun c2 => ?_, fun c2 => ?_⟩
    · have h := h.1 c2
      refine x_aload_n dX9_purseFor_12 rfl ?_
      refine x_getr (j := 326) dX9_purseFor_13 fk_RX9_51 (kl rfl hn) sh_0 (rt_0_7 hG) ?_
      refine x_aload_n dX9_purseFor_16 rfl ?_
      refine x_getr (j := 2) dX9_purseFor_17 fk_RX9_20 (kl rfl hn) sh_0 (rt_0_2 hG) ?_
      refine x_getr (j := 3) dX9_purseFor_20 fk_RX9_66 (Py_k play_2 hn 0 rfl) (Py_s0 play_2) (Py_r0 hG play_2) ?_
      refine x_cVv11 [.ref 3] (mt_X8_learnBest hn hG (Py_plan play_2) h) dX9_purseFor_23 lk_RX9_293 (kl rfl hn) sh_326 rfl rfl (Nat.le_of_ble_eq_true rfl) (Rf_of rfl) (fun I3 L4 h => ?_)
      refine x_aload_n dX9_purseFor_26 rfl ?_
      refine x_getr (j := 326) dX9_purseFor_27 fk_RX9_51 (kl rfl hn) sh_0 (rt_0_7 hG) ?_
      refine x_getr (j := 333) dX9_purseFor_30 fk_RX9_296 (kl rfl hn) sh_326 (rt_326_7 hG) ?_
      refine x_iconst (v := 0) dX9_purseFor_33 ki_0 ?_
      obtain ⟨b5, h⟩ := h
      refine x_laload dX9_purseFor_34 (kl rfl hn) sh_333 b5 ?_
      refine x_iload_n dX9_purseFor_35 rfl ?_
      refine x_i2l dX9_purseFor_36 ?_
      refine x_lmul dX9_purseFor_37 ?_
      refine x_lstore_n (ls' := [(2, .long ((L4 333 (ix 0)) * v1.toInt64)), (0, .ref 0), (1, .int v1)]) dX9_purseFor_38 (Nat.le_of_ble_eq_true rfl) rfl ?_
      refine x_iconst (v := 0) dX9_purseFor_39 ki_0 ?_
      refine x_istore (ls' := [(4, .int 0), (2, .long ((L4 333 (ix 0)) * v1.toInt64)), (0, .ref 0), (1, .int v1)]) dX9_purseFor_40 (Nat.le_of_ble_eq_true rfl) rfl ?_
      refine x_ls (ls' := [(0, .ref 0), (2, .long ((L4 333 (ix 0)) * v1.toInt64)), (4, .int 0)]) [2, 1, 0] rfl ?_
      obtain ⟨N9, h⟩ := h
      exact lpt_X9_purseFor_42 hn hG  N9 0 h
    · have h := h.2 c2
      refine x_iconst (v := (-1)) dX9_purseFor_10 ki_m1 ?_
      exact x_ireturn dX9_purseFor_11 ⟨_, rfl, rfl, rfl, h⟩
abbrev rm_X9_quiet : Room := { frames := 6, cells := 0, slots := 0, locals := 161 }
def wp_X9_quiet (I : MI) (L : ML) (Q : Int32 → MI → ML → Prop) : Prop :=
    (wp_X2_copyFrom 24 2 I L (fun I1 L2 => ((wp_X2_goTillQuiet 24 I1 L2 (fun x3 I4 L5 => (Q x3 I4 L5))))))
set_option maxRecDepth 20000 in
theorem mt_X9_quiet {E : Ev} {l : Launch} {n : Nat} {R : MR} (hn : 336 ≤ n) (hG : GRx R) {I : MI} {L : ML} {Q : Int32 → MI → ML → Prop} (h : wp_X9_quiet I L Q) : MX E l rm_X9_quiet yX9_quiet cX9_quiet 1 (some .int) [.ref 0] n I L R (Qi n R (P11 I L Q)) := by
  refine MX_of (ls := [(0, .ref 0)]) (by decide) (Nat.le_of_ble_eq_true rfl) rfl ?_
  unfold wp_X9_quiet at h
  refine x_aload_n dX9_quiet_0 rfl ?_
  refine x_getr (j := 24) dX9_quiet_1 fk_RX9_24 (kl rfl hn) sh_0 (rt_0_3 hG) ?_
  refine x_aload_n dX9_quiet_4 rfl ?_
  refine x_getr (j := 2) dX9_quiet_5 fk_RX9_20 (kl rfl hn) sh_0 (rt_0_2 hG) ?_
  refine x_cVv11 [.ref 2] (mt_X2_copyFrom hn hG play_24 play_2 h) dX9_quiet_8 lk_RX9_312 (Py_k play_24 hn 0 rfl) (Py_s0 play_24) rfl rfl (Nat.le_of_ble_eq_true rfl) (Rf_of rfl) (fun I1 L2 h => ?_)
  refine x_aload_n dX9_quiet_11 rfl ?_
  refine x_getr (j := 24) dX9_quiet_12 fk_RX9_24 (kl rfl hn) sh_0 (rt_0_3 hG) ?_
  refine x_cVi11 [] (mt_X2_goTillQuiet hn hG play_24 h) dX9_quiet_15 lk_RX9_328 (Py_k play_24 hn 0 rfl) (Py_s0 play_24) rfl rfl (Nat.le_of_ble_eq_true rfl) (Rf_of rfl) (fun x3 I4 L5 h => ?_)
  exact x_ireturn dX9_quiet_18 ⟨_, rfl, rfl, rfl, h⟩
abbrev rm_X9_rule : Room := { frames := 4, cells := 0, slots := 0, locals := 112 }
def wp_X9_rule (I : MI) (L : ML) (Q : Int32 → MI → ML → Prop) : Prop :=
    (wp_X0_remember 2 I L (fun I1 L2 => ((∀ I3, I3 = u2 I1 3 4 (1 - (I 3 4)) → Q (I 3 4) I3 L2))))
set_option maxRecDepth 20000 in
theorem mt_X9_rule {E : Ev} {l : Launch} {n : Nat} {R : MR} (hn : 336 ≤ n) (hG : GRx R) {I : MI} {L : ML} {Q : Int32 → MI → ML → Prop} (h : wp_X9_rule I L Q) : MX E l rm_X9_rule yX9_rule cX9_rule 2 (some .int) [.ref 0] n I L R (Qi n R (P11 I L Q)) := by
  refine MX_of (ls := [(0, .ref 0)]) (by decide) (Nat.le_of_ble_eq_true rfl) rfl ?_
  unfold wp_X9_rule at h
  refine x_aload_n dX9_rule_0 rfl ?_
  refine x_getr (j := 2) dX9_rule_1 fk_RX9_20 (kl rfl hn) sh_0 (rt_0_2 hG) ?_
  refine x_getr (j := 3) dX9_rule_4 fk_RX9_66 (Py_k play_2 hn 0 rfl) (Py_s0 play_2) (Py_r0 hG play_2) ?_
  refine x_geti dX9_rule_7 fk_RX9_167 (Pn_k (Py_plan play_2) hn 0 rfl) (Pn_s0 (Py_plan play_2)) ?_
  refine x_istore_n (ls' := [(1, .int (I 3 4)), (0, .ref 0)]) dX9_rule_10 (Nat.le_of_ble_eq_true rfl) rfl ?_
  refine x_aload_n dX9_rule_11 rfl ?_
  refine x_getr (j := 46) dX9_rule_12 fk_RX9_30 (kl rfl hn) sh_0 (rt_0_4 hG) ?_
  refine x_aload_n dX9_rule_15 rfl ?_
  refine x_getr (j := 2) dX9_rule_16 fk_RX9_20 (kl rfl hn) sh_0 (rt_0_2 hG) ?_
  refine x_cVv11 [.ref 2] (mt_X0_remember hn hG play_2 h) dX9_rule_19 lk_RX9_101 (kl rfl hn) sh_46 rfl rfl (Nat.le_of_ble_eq_true rfl) (Rf_of rfl) (fun I1 L2 h => ?_)
  refine x_aload_n dX9_rule_22 rfl ?_
  refine x_getr (j := 2) dX9_rule_23 fk_RX9_20 (kl rfl hn) sh_0 (rt_0_2 hG) ?_
  refine x_getr (j := 3) dX9_rule_26 fk_RX9_66 (Py_k play_2 hn 0 rfl) (Py_s0 play_2) (Py_r0 hG play_2) ?_
  refine x_iconst (v := 1) dX9_rule_29 ki_1 ?_
  refine x_iload_n dX9_rule_30 rfl ?_
  refine x_isub dX9_rule_31 ?_
  refine x_puti dX9_rule_32 fk_RX9_167 fw_1_4 (vp_nar_int _) rfl (Pn_k (Py_plan play_2) hn 0 rfl) (Pn_s0 (Py_plan play_2)) (fun I3 eI3 => ?_)
  have h := h I3 eI3
  refine x_iload_n dX9_rule_35 rfl ?_
  exact x_ireturn dX9_rule_36 ⟨_, rfl, rfl, rfl, h⟩
abbrev rm_X9_run : Room := { frames := 6, cells := 0, slots := 0, locals := 168 }
def wp_X9_run (I : MI) (L : ML) (v1 : Int32) (v2 : Int32) (Q : Int32 → MI → ML → Prop) : Prop :=
    (wp_X2_canGoBy 2 I v1 30 (fun x1 => (((¬ x1 = 0 → (wp_X0_remember 2 I L (fun I3 L4 => ((wp_X2_drawDays 2 I3 L4 v1 v2 (fun x5 I6 L7 => (Q x5 I6 L7))))))) ∧ (x1 = 0 → Q (-1) I L)))))
set_option maxRecDepth 20000 in
theorem mt_X9_run {E : Ev} {l : Launch} {n : Nat} {R : MR} (hn : 336 ≤ n) (hG : GRx R) {I : MI} {L : ML} {v1 : Int32} {v2 : Int32} {Q : Int32 → MI → ML → Prop} (h : wp_X9_run I L v1 v2 Q) : MX E l rm_X9_run yX9_run cX9_run 3 (some .int) [.ref 0, .int v1, .int v2] n I L R (Qi n R (P11 I L Q)) := by
  refine MX_of (ls := [(0, .ref 0), (1, .int v1), (2, .int v2)]) (by decide) (Nat.le_of_ble_eq_true rfl) rfl ?_
  unfold wp_X9_run at h
  refine x_aload_n dX9_run_0 rfl ?_
  refine x_getr (j := 2) dX9_run_1 fk_RX9_20 (kl rfl hn) sh_0 (rt_0_2 hG) ?_
  refine x_iload_n dX9_run_4 rfl ?_
  refine x_bipush (v := 30) dX9_run_5 kb_30 ?_
  refine x_cVi00 [.int v1, .int 30] (mt_X2_canGoBy hn hG play_2 h) dX9_run_7 lk_RX9_109 (Py_k play_2 hn 0 rfl) (Py_s0 play_2) rfl rfl (Nat.le_of_ble_eq_true rfl) (Rf_of rfl) (fun x1 h => ?_)
  refine x_if_ne dX9_run_10 (tgt := 15) rfl ⟨fun c2 => ?_, fun c2 => ?_⟩
  · have h := h.1 c2
    refine x_aload_n dX9_run_15 rfl ?_
    refine x_getr (j := 46) dX9_run_16 fk_RX9_30 (kl rfl hn) sh_0 (rt_0_4 hG) ?_
    refine x_aload_n dX9_run_19 rfl ?_
    refine x_getr (j := 2) dX9_run_20 fk_RX9_20 (kl rfl hn) sh_0 (rt_0_2 hG) ?_
    refine x_cVv11 [.ref 2] (mt_X0_remember hn hG play_2 h) dX9_run_23 lk_RX9_101 (kl rfl hn) sh_46 rfl rfl (Nat.le_of_ble_eq_true rfl) (Rf_of rfl) (fun I3 L4 h => ?_)
    refine x_aload_n dX9_run_26 rfl ?_
    refine x_getr (j := 2) dX9_run_27 fk_RX9_20 (kl rfl hn) sh_0 (rt_0_2 hG) ?_
    refine x_iload_n dX9_run_30 rfl ?_
    refine x_iload_n dX9_run_31 rfl ?_
    refine x_cVi11 [.int v1, .int v2] (mt_X2_drawDays hn hG play_2 h) dX9_run_32 lk_RX9_118 (Py_k play_2 hn 0 rfl) (Py_s0 play_2) rfl rfl (Nat.le_of_ble_eq_true rfl) (Rf_of rfl) (fun x5 I6 L7 h => ?_)
    exact x_ireturn dX9_run_35 ⟨_, rfl, rfl, rfl, h⟩
  · have h := h.2 c2
    refine x_iconst (v := (-1)) dX9_run_13 ki_m1 ?_
    exact x_ireturn dX9_run_14 ⟨_, rfl, rfl, rfl, h⟩
abbrev rm_X9_sell : Room := { frames := 4, cells := 0, slots := 0, locals := 112 }
def wp_X9_sell (I : MI) (L : ML) (v1 : Int32) (v2 : Int32) (Q : Int32 → MI → ML → Prop) : Prop :=
    (wp_X1_hasCell 3 I v1 v2 (fun x1 => (((¬ x1 = 0 → (wp_X9_placeOf v1 v2 (fun x3 => ((vp_in x3 16 ∧ (((I 11 (ix x3)) ≤ 0 → Q (-1) I L) ∧ (¬ (I 11 (ix x3)) ≤ 0 → (vp_in x3 16 ∧ ((0 < (I 12 (ix x3)) → (wp_X0_remember 2 I L (fun I8 L9 => ((vp_in x3 16 ∧ (vp_in x3 16 ∧ (∀ I12, I12 = u2 I8 11 (ix x3) ((I8 11 (ix x3)) - 1) → (vp_in x3 16 ∧ (vp_in x3 16 ∧ (∀ I15, I15 = u2 I12 12 (ix x3) ((I12 12 (ix x3)) - 1) → (vp_in x3 16 ∧ Q (I15 11 (ix x3)) I15 L9))))))))))) ∧ (¬ 0 < (I 12 (ix x3)) → Q (-1) I L)))))))))) ∧ (x1 = 0 → Q (-1) I L)))))
set_option maxRecDepth 20000 in
theorem mt_X9_sell {E : Ev} {l : Launch} {n : Nat} {R : MR} (hn : 336 ≤ n) (hG : GRx R) {I : MI} {L : ML} {v1 : Int32} {v2 : Int32} {Q : Int32 → MI → ML → Prop} (h : wp_X9_sell I L v1 v2 Q) : MX E l rm_X9_sell yX9_sell cX9_sell 4 (some .int) [.ref 0, .int v1, .int v2] n I L R (Qi n R (P11 I L Q)) := by
  refine MX_of (ls := [(0, .ref 0), (1, .int v1), (2, .int v2)]) (by decide) (Nat.le_of_ble_eq_true rfl) rfl ?_
  unfold wp_X9_sell at h
  refine x_aload_n dX9_sell_0 rfl ?_
  refine x_getr (j := 2) dX9_sell_1 fk_RX9_20 (kl rfl hn) sh_0 (rt_0_2 hG) ?_
  refine x_getr (j := 3) dX9_sell_4 fk_RX9_66 (Py_k play_2 hn 0 rfl) (Py_s0 play_2) (Py_r0 hG play_2) ?_
  refine x_iload_n dX9_sell_7 rfl ?_
  refine x_iload_n dX9_sell_8 rfl ?_
  refine x_cVi00 [.int v1, .int v2] (mt_X1_hasCell hn hG (Py_plan play_2) h) dX9_sell_9 lk_RX9_89 (Pn_k (Py_plan play_2) hn 0 rfl) (Pn_s0 (Py_plan play_2)) rfl rfl (Nat.le_of_ble_eq_true rfl) (Rf_of rfl) (fun x1 h => ?_)
  refine x_if_ne dX9_sell_12 (tgt := 17) rfl ⟨fun c2 => ?_, fun c2 => ?_⟩
  · have h := h.1 c2
    refine x_iload_n dX9_sell_17 rfl ?_
    refine x_iload_n dX9_sell_18 rfl ?_
    refine x_cSi00 [.int v1, .int v2] (mt_X9_placeOf hn hG h) dX9_sell_19 lk_RX9_93 rfl rfl (Nat.le_of_ble_eq_true rfl) (Rf_of rfl) (fun x3 h => ?_)
    refine x_istore_n (ls' := [(3, .int x3), (0, .ref 0), (1, .int v1), (2, .int v2)]) dX9_sell_22 (Nat.le_of_ble_eq_true rfl) rfl ?_
    refine x_aload_n dX9_sell_23 rfl ?_
    refine x_getr (j := 2) dX9_sell_24 fk_RX9_20 (kl rfl hn) sh_0 (rt_0_2 hG) ?_
    refine x_getr (j := 3) dX9_sell_27 fk_RX9_66 (Py_k play_2 hn 0 rfl) (Py_s0 play_2) (Py_r0 hG play_2) ?_
    refine x_getr (j := 11) dX9_sell_30 fk_RX9_121 (Pn_k (Py_plan play_2) hn 0 rfl) (Pn_s0 (Py_plan play_2)) (Pn_r12 hG (Py_plan play_2)) ?_
    refine x_iload_n dX9_sell_33 rfl ?_
    obtain ⟨b4, h⟩ := h
    refine x_iaload dX9_sell_34 (Pn_k (Py_plan play_2) hn 8 rfl) (Pn_s8 (Py_plan play_2)) b4 ?_
    refine x_if_le dX9_sell_35 (tgt := 50) rfl ⟨fun c5 => ?_, fun c5 => ?_⟩
    · have h := h.1 c5
      refine x_iconst (v := (-1)) dX9_sell_50 ki_m1 ?_
      exact x_ireturn dX9_sell_51 ⟨_, rfl, rfl, rfl, h⟩
    · have h := h.2 c5
      refine x_aload_n dX9_sell_38 rfl ?_
      refine x_getr (j := 2) dX9_sell_39 fk_RX9_20 (kl rfl hn) sh_0 (rt_0_2 hG) ?_
      refine x_getr (j := 12) dX9_sell_42 fk_RX9_128 (Py_k play_2 hn 0 rfl) (Py_s0 play_2) (Py_r1 hG play_2) ?_
      refine x_iload_n dX9_sell_45 rfl ?_
      obtain ⟨b6, h⟩ := h
      refine x_iaload dX9_sell_46 (Py_k play_2 hn 10 rfl) (Py_s10 play_2) b6 ?_
      refine x_if_gt dX9_sell_47 (tgt := 52) rfl ⟨fun c7 => ?_, fun c7 => ?_⟩
      · have h := h.1 c7
        refine x_aload_n dX9_sell_52 rfl ?_
        refine x_getr (j := 46) dX9_sell_53 fk_RX9_30 (kl rfl hn) sh_0 (rt_0_4 hG) ?_
        refine x_aload_n dX9_sell_56 rfl ?_
        refine x_getr (j := 2) dX9_sell_57 fk_RX9_20 (kl rfl hn) sh_0 (rt_0_2 hG) ?_
        refine x_cVv11 [.ref 2] (mt_X0_remember hn hG play_2 h) dX9_sell_60 lk_RX9_101 (kl rfl hn) sh_46 rfl rfl (Nat.le_of_ble_eq_true rfl) (Rf_of rfl) (fun I8 L9 h => ?_)
        refine x_aload_n dX9_sell_63 rfl ?_
        refine x_getr (j := 2) dX9_sell_64 fk_RX9_20 (kl rfl hn) sh_0 (rt_0_2 hG) ?_
        refine x_getr (j := 3) dX9_sell_67 fk_RX9_66 (Py_k play_2 hn 0 rfl) (Py_s0 play_2) (Py_r0 hG play_2) ?_
        refine x_getr (j := 11) dX9_sell_70 fk_RX9_121 (Pn_k (Py_plan play_2) hn 0 rfl) (Pn_s0 (Py_plan play_2)) (Pn_r12 hG (Py_plan play_2)) ?_
        refine x_iload_n dX9_sell_73 rfl ?_
        refine x_dup2 dX9_sell_74 rfl rfl ?_
        obtain ⟨b10, h⟩ := h
        refine x_iaload dX9_sell_75 (Pn_k (Py_plan play_2) hn 8 rfl) (Pn_s8 (Py_plan play_2)) b10 ?_
        refine x_iconst (v := 1) dX9_sell_76 ki_1 ?_
        refine x_isub dX9_sell_77 ?_
        obtain ⟨b11, h⟩ := h
        refine x_iastore dX9_sell_78 (Pn_k (Py_plan play_2) hn 8 rfl) (Pn_s8 (Py_plan play_2)) b11 (fun I12 eI12 => ?_)
        have h := h I12 eI12
        refine x_aload_n dX9_sell_79 rfl ?_
        refine x_getr (j := 2) dX9_sell_80 fk_RX9_20 (kl rfl hn) sh_0 (rt_0_2 hG) ?_
        refine x_getr (j := 12) dX9_sell_83 fk_RX9_128 (Py_k play_2 hn 0 rfl) (Py_s0 play_2) (Py_r1 hG play_2) ?_
        refine x_iload_n dX9_sell_86 rfl ?_
        refine x_dup2 dX9_sell_87 rfl rfl ?_
        obtain ⟨b13, h⟩ := h
        refine x_iaload dX9_sell_88 (Py_k play_2 hn 10 rfl) (Py_s10 play_2) b13 ?_
        refine x_iconst (v := 1) dX9_sell_89 ki_1 ?_
        refine x_isub dX9_sell_90 ?_
        obtain ⟨b14, h⟩ := h
        refine x_iastore dX9_sell_91 (Py_k play_2 hn 10 rfl) (Py_s10 play_2) b14 (fun I15 eI15 => ?_)
        have h := h I15 eI15
        refine x_aload_n dX9_sell_92 rfl ?_
        refine x_getr (j := 2) dX9_sell_93 fk_RX9_20 (kl rfl hn) sh_0 (rt_0_2 hG) ?_
        refine x_getr (j := 3) dX9_sell_96 fk_RX9_66 (Py_k play_2 hn 0 rfl) (Py_s0 play_2) (Py_r0 hG play_2) ?_
        refine x_getr (j := 11) dX9_sell_99 fk_RX9_121 (Pn_k (Py_plan play_2) hn 0 rfl) (Pn_s0 (Py_plan play_2)) (Pn_r12 hG (Py_plan play_2)) ?_
        refine x_iload_n dX9_sell_102 rfl ?_
        obtain ⟨b16, h⟩ := h
        refine x_iaload dX9_sell_103 (Pn_k (Py_plan play_2) hn 8 rfl) (Pn_s8 (Py_plan play_2)) b16 ?_
        exact x_ireturn dX9_sell_104 ⟨_, rfl, rfl, rfl, h⟩
      · have h := h.2 c7
        refine x_iconst (v := (-1)) dX9_sell_50 ki_m1 ?_
        exact x_ireturn dX9_sell_51 ⟨_, rfl, rfl, rfl, h⟩
  · have h := h.2 c2
    refine x_iconst (v := (-1)) dX9_sell_15 ki_m1 ?_
    exact x_ireturn dX9_sell_16 ⟨_, rfl, rfl, rfl, h⟩
abbrev rm_X9_set : Room := { frames := 4, cells := 0, slots := 0, locals := 112 }
def wp_X9_set (I : MI) (L : ML) (v1 : Int32) (v2 : Int32) (v3 : Int32) (Q : Int32 → MI → ML → Prop) : Prop :=
    (wp_X1_hasPart 3 I v1 (fun x1 => (((x1 = 0 → Q (-1) I L) ∧ (¬ x1 = 0 → ((v2 < 0 → Q (-1) I L) ∧ (¬ v2 < 0 → ((2 < v2 → Q (-1) I L) ∧ (¬ 2 < v2 → (wp_X7_fitsPart I v2 v3 (fun x5 => (((¬ x5 = 0 → (wp_X1_ofPart 3 I v1 v2 (fun x7 => (((¬ x7 = v3 → (wp_X0_remember 2 I L (fun I9 L10 => ((wp_X8_forget I9 (fun I11 => ((wp_X1_changePart 3 I11 v1 v2 v3 (fun I12 => (Q x7 I12 L10)))))))))) ∧ (x7 = v3 → Q (-1) I L)))))) ∧ (x5 = 0 → Q (-1) I L))))))))))))))
set_option maxRecDepth 20000 in
theorem mt_X9_set {E : Ev} {l : Launch} {n : Nat} {R : MR} (hn : 336 ≤ n) (hG : GRx R) {I : MI} {L : ML} {v1 : Int32} {v2 : Int32} {v3 : Int32} {Q : Int32 → MI → ML → Prop} (h : wp_X9_set I L v1 v2 v3 Q) : MX E l rm_X9_set yX9_set cX9_set 5 (some .int) [.ref 0, .int v1, .int v2, .int v3] n I L R (Qi n R (P11 I L Q)) := by
  refine MX_of (ls := [(0, .ref 0), (1, .int v1), (2, .int v2), (3, .int v3)]) (by decide) (Nat.le_of_ble_eq_true rfl) rfl ?_
  unfold wp_X9_set at h
  refine x_aload_n dX9_set_0 rfl ?_
  refine x_getr (j := 2) dX9_set_1 fk_RX9_20 (kl rfl hn) sh_0 (rt_0_2 hG) ?_
  refine x_getr (j := 3) dX9_set_4 fk_RX9_66 (Py_k play_2 hn 0 rfl) (Py_s0 play_2) (Py_r0 hG play_2) ?_
  refine x_iload_n dX9_set_7 rfl ?_
  refine x_cVi00 [.int v1] (mt_X1_hasPart hn hG (Py_plan play_2) h) dX9_set_8 lk_RX9_131 (Pn_k (Py_plan play_2) hn 0 rfl) (Pn_s0 (Py_plan play_2)) rfl rfl (Nat.le_of_ble_eq_true rfl) (Rf_of rfl) (fun x1 h => ?_)
  refine x_if_eq dX9_set_11 (tgt := 31) rfl ⟨fun c2 => ?_, fun c2 => ?_⟩
  · have h := h.1 c2
    refine x_iconst (v := (-1)) dX9_set_31 ki_m1 ?_
    exact x_ireturn dX9_set_32 ⟨_, rfl, rfl, rfl, h⟩
  · have h := h.2 c2
    refine x_iload_n dX9_set_14 rfl ?_
    refine x_if_lt dX9_set_15 (tgt := 31) rfl ⟨fun c3 => ?_, fun c3 => ?_⟩
    · have h := h.1 c3
      refine x_iconst (v := (-1)) dX9_set_31 ki_m1 ?_
      exact x_ireturn dX9_set_32 ⟨_, rfl, rfl, rfl, h⟩
    · have h := h.2 c3
      refine x_iload_n dX9_set_18 rfl ?_
      refine x_iconst (v := 2) dX9_set_19 ki_2 ?_
      refine x_icmp_gt dX9_set_20 (tgt := 31) rfl ⟨fun c4 => ?_, fun c4 => ?_⟩
      · have h := h.1 c4
        refine x_iconst (v := (-1)) dX9_set_31 ki_m1 ?_
        exact x_ireturn dX9_set_32 ⟨_, rfl, rfl, rfl, h⟩
      · have h := h.2 c4
        refine x_iload_n dX9_set_23 rfl ?_
        refine x_iload_n dX9_set_24 rfl ?_
        refine x_cSi00 [.int v2, .int v3] (mt_X7_fitsPart hn hG h) dX9_set_25 lk_RX9_143 rfl rfl (Nat.le_of_ble_eq_true rfl) (Rf_of rfl) (fun x5 h => ?_)
        refine x_if_ne dX9_set_28 (tgt := 33) rfl ⟨fun c6 => ?_, fun c6 => ?_⟩
        · have h := h.1 c6
          refine x_aload_n dX9_set_33 rfl ?_
          refine x_getr (j := 2) dX9_set_34 fk_RX9_20 (kl rfl hn) sh_0 (rt_0_2 hG) ?_
          refine x_getr (j := 3) dX9_set_37 fk_RX9_66 (Py_k play_2 hn 0 rfl) (Py_s0 play_2) (Py_r0 hG play_2) ?_
          refine x_iload_n dX9_set_40 rfl ?_
          refine x_iload_n dX9_set_41 rfl ?_
          refine x_cVi00 [.int v1, .int v2] (mt_X1_ofPart hn hG (Py_plan play_2) h) dX9_set_42 lk_RX9_148 (Pn_k (Py_plan play_2) hn 0 rfl) (Pn_s0 (Py_plan play_2)) rfl rfl (Nat.le_of_ble_eq_true rfl) (Rf_of rfl) (fun x7 h => ?_)
          refine x_istore (ls' := [(4, .int x7), (0, .ref 0), (1, .int v1), (2, .int v2), (3, .int v3)]) dX9_set_45 (Nat.le_of_ble_eq_true rfl) rfl ?_
          refine x_iload dX9_set_47 rfl ?_
          refine x_iload_n dX9_set_49 rfl ?_
          refine x_icmp_ne dX9_set_50 (tgt := 55) rfl ⟨fun c8 => ?_, fun c8 => ?_⟩
          · have h := h.1 c8
            refine x_aload_n dX9_set_55 rfl ?_
            refine x_getr (j := 46) dX9_set_56 fk_RX9_30 (kl rfl hn) sh_0 (rt_0_4 hG) ?_
            refine x_aload_n dX9_set_59 rfl ?_
            refine x_getr (j := 2) dX9_set_60 fk_RX9_20 (kl rfl hn) sh_0 (rt_0_2 hG) ?_
            refine x_cVv11 [.ref 2] (mt_X0_remember hn hG play_2 h) dX9_set_63 lk_RX9_101 (kl rfl hn) sh_46 rfl rfl (Nat.le_of_ble_eq_true rfl) (Rf_of rfl) (fun I9 L10 h => ?_)
            refine x_aload_n dX9_set_66 rfl ?_
            refine x_getr (j := 326) dX9_set_67 fk_RX9_51 (kl rfl hn) sh_0 (rt_0_7 hG) ?_
            refine x_cVv10 [] (mt_X8_forget hn hG h) dX9_set_70 lk_RX9_82 (kl rfl hn) sh_326 rfl rfl (Nat.le_of_ble_eq_true rfl) (Rf_of rfl) (fun I11 h => ?_)
            refine x_aload_n dX9_set_73 rfl ?_
            refine x_getr (j := 2) dX9_set_74 fk_RX9_20 (kl rfl hn) sh_0 (rt_0_2 hG) ?_
            refine x_getr (j := 3) dX9_set_77 fk_RX9_66 (Py_k play_2 hn 0 rfl) (Py_s0 play_2) (Py_r0 hG play_2) ?_
            refine x_iload_n dX9_set_80 rfl ?_
            refine x_iload_n dX9_set_81 rfl ?_
            refine x_iload_n dX9_set_82 rfl ?_
            refine x_cVv10 [.int v1, .int v2, .int v3] (mt_X1_changePart hn hG (Py_plan play_2) h) dX9_set_83 lk_RX9_151 (Pn_k (Py_plan play_2) hn 0 rfl) (Pn_s0 (Py_plan play_2)) rfl rfl (Nat.le_of_ble_eq_true rfl) (Rf_of rfl) (fun I12 h => ?_)
            refine x_iload dX9_set_86 rfl ?_
            exact x_ireturn dX9_set_88 ⟨_, rfl, rfl, rfl, h⟩
          · have h := h.2 c8
            refine x_iconst (v := (-1)) dX9_set_53 ki_m1 ?_
            exact x_ireturn dX9_set_54 ⟨_, rfl, rfl, rfl, h⟩
        · have h := h.2 c6
          refine x_iconst (v := (-1)) dX9_set_31 ki_m1 ?_
          exact x_ireturn dX9_set_32 ⟨_, rfl, rfl, rfl, h⟩
abbrev rm_X9_spared : Room := { frames := 7, cells := 0, slots := 0, locals := 190 }
def wp_X9_spared (I : MI) (L : ML) (v1 : Int32) (v2 : Int32) (v3 : Int32) (v4 : Int32) (Q : Int32 → MI → ML → Prop) : Prop :=
    (wp_X2_canGoBy 2 I v1 12 (fun x1 => (((x1 = 0 → Q (-100000) I L) ∧ (¬ x1 = 0 → (wp_X1_hasCell 3 I v3 v4 (fun x3 => (((¬ x3 = 0 → (wp_X2_copyFrom 24 2 I L (fun I5 L6 => ((wp_X9_lateBehindRun I5 L6 v1 v2 (fun x7 I8 L9 => ((wp_X2_copyFrom 24 2 I8 L9 (fun I10 L11 => ((wp_X9_placeOf v3 v4 (fun x12 => ((wp_X2_receive 24 I10 L11 x12 (fun I13 L14 => ((wp_X9_lateBehindRun I13 L14 v1 v2 (fun x15 I16 L17 => (Q (x7 - x15) I16 L17))))))))))))))))))) ∧ (x3 = 0 → Q (-100000) I L))))))))))
set_option maxRecDepth 20000 in
theorem mt_X9_spared {E : Ev} {l : Launch} {n : Nat} {R : MR} (hn : 336 ≤ n) (hG : GRx R) {I : MI} {L : ML} {v1 : Int32} {v2 : Int32} {v3 : Int32} {v4 : Int32} {Q : Int32 → MI → ML → Prop} (h : wp_X9_spared I L v1 v2 v3 v4 Q) : MX E l rm_X9_spared yX9_spared cX9_spared 6 (some .int) [.ref 0, .int v1, .int v2, .int v3, .int v4] n I L R (Qi n R (P11 I L Q)) := by
  refine MX_of (ls := [(0, .ref 0), (1, .int v1), (2, .int v2), (3, .int v3), (4, .int v4)]) (by decide) (Nat.le_of_ble_eq_true rfl) rfl ?_
  unfold wp_X9_spared at h
  refine x_aload_n dX9_spared_0 rfl ?_
  refine x_getr (j := 2) dX9_spared_1 fk_RX9_20 (kl rfl hn) sh_0 (rt_0_2 hG) ?_
  refine x_iload_n dX9_spared_4 rfl ?_
  refine x_bipush (v := 12) dX9_spared_5 kb_12 ?_
  refine x_cVi00 [.int v1, .int 12] (mt_X2_canGoBy hn hG play_2 h) dX9_spared_7 lk_RX9_109 (Py_k play_2 hn 0 rfl) (Py_s0 play_2) rfl rfl (Nat.le_of_ble_eq_true rfl) (Rf_of rfl) (fun x1 h => ?_)
  refine x_if_eq dX9_spared_10 (tgt := 29) rfl ⟨fun c2 => ?_, fun c2 => ?_⟩
  · have h := h.1 c2
    refine x_ldcw (v := -100000) dX9_spared_29 kc_RX9_314 ?_
    exact x_ireturn dX9_spared_32 ⟨_, rfl, rfl, rfl, h⟩
  · have h := h.2 c2
    refine x_aload_n dX9_spared_13 rfl ?_
    refine x_getr (j := 2) dX9_spared_14 fk_RX9_20 (kl rfl hn) sh_0 (rt_0_2 hG) ?_
    refine x_getr (j := 3) dX9_spared_17 fk_RX9_66 (Py_k play_2 hn 0 rfl) (Py_s0 play_2) (Py_r0 hG play_2) ?_
    refine x_iload_n dX9_spared_20 rfl ?_
    refine x_iload dX9_spared_21 rfl ?_
    refine x_cVi00 [.int v3, .int v4] (mt_X1_hasCell hn hG (Py_plan play_2) h) dX9_spared_23 lk_RX9_89 (Pn_k (Py_plan play_2) hn 0 rfl) (Pn_s0 (Py_plan play_2)) rfl rfl (Nat.le_of_ble_eq_true rfl) (Rf_of rfl) (fun x3 h => ?_)
    refine x_if_ne dX9_spared_26 (tgt := 33) rfl ⟨fun c4 => ?_, fun c4 => ?_⟩
    · have h := h.1 c4
      refine x_aload_n dX9_spared_33 rfl ?_
      refine x_getr (j := 24) dX9_spared_34 fk_RX9_24 (kl rfl hn) sh_0 (rt_0_3 hG) ?_
      refine x_aload_n dX9_spared_37 rfl ?_
      refine x_getr (j := 2) dX9_spared_38 fk_RX9_20 (kl rfl hn) sh_0 (rt_0_2 hG) ?_
      refine x_cVv11 [.ref 2] (mt_X2_copyFrom hn hG play_24 play_2 h) dX9_spared_41 lk_RX9_312 (Py_k play_24 hn 0 rfl) (Py_s0 play_24) rfl rfl (Nat.le_of_ble_eq_true rfl) (Rf_of rfl) (fun I5 L6 h => ?_)
      refine x_aload_n dX9_spared_44 rfl ?_
      refine x_iload_n dX9_spared_45 rfl ?_
      refine x_iload_n dX9_spared_46 rfl ?_
      refine x_cVi11 [.int v1, .int v2] (mt_X9_lateBehindRun hn hG h) dX9_spared_47 lk_RX9_315 (kl rfl hn) sh_0 rfl rfl (Nat.le_of_ble_eq_true rfl) (Rf_of rfl) (fun x7 I8 L9 h => ?_)
      refine x_istore (ls' := [(5, .int x7), (0, .ref 0), (1, .int v1), (2, .int v2), (3, .int v3), (4, .int v4)]) dX9_spared_50 (Nat.le_of_ble_eq_true rfl) rfl ?_
      refine x_aload_n dX9_spared_52 rfl ?_
      refine x_getr (j := 24) dX9_spared_53 fk_RX9_24 (kl rfl hn) sh_0 (rt_0_3 hG) ?_
      refine x_aload_n dX9_spared_56 rfl ?_
      refine x_getr (j := 2) dX9_spared_57 fk_RX9_20 (kl rfl hn) sh_0 (rt_0_2 hG) ?_
      refine x_cVv11 [.ref 2] (mt_X2_copyFrom hn hG play_24 play_2 h) dX9_spared_60 lk_RX9_312 (Py_k play_24 hn 0 rfl) (Py_s0 play_24) rfl rfl (Nat.le_of_ble_eq_true rfl) (Rf_of rfl) (fun I10 L11 h => ?_)
      refine x_aload_n dX9_spared_63 rfl ?_
      refine x_getr (j := 24) dX9_spared_64 fk_RX9_24 (kl rfl hn) sh_0 (rt_0_3 hG) ?_
      refine x_iload_n dX9_spared_67 rfl ?_
      refine x_iload dX9_spared_68 rfl ?_
      refine x_cSi00 [.int v3, .int v4] (mt_X9_placeOf hn hG h) dX9_spared_70 lk_RX9_93 rfl rfl (Nat.le_of_ble_eq_true rfl) (Rf_of rfl) (fun x12 h => ?_)
      refine x_cVv11 [.int x12] (mt_X2_receive hn hG play_24 h) dX9_spared_73 lk_RX9_125 (Py_k play_24 hn 0 rfl) (Py_s0 play_24) rfl rfl (Nat.le_of_ble_eq_true rfl) (Rf_of rfl) (fun I13 L14 h => ?_)
      refine x_iload dX9_spared_76 rfl ?_
      refine x_aload_n dX9_spared_78 rfl ?_
      refine x_iload_n dX9_spared_79 rfl ?_
      refine x_iload_n dX9_spared_80 rfl ?_
      refine x_cVi11 [.int v1, .int v2] (mt_X9_lateBehindRun hn hG h) dX9_spared_81 lk_RX9_315 (kl rfl hn) sh_0 rfl rfl (Nat.le_of_ble_eq_true rfl) (Rf_of rfl) (fun x15 I16 L17 h => ?_)
      refine x_isub dX9_spared_84 ?_
      exact x_ireturn dX9_spared_85 ⟨_, rfl, rfl, rfl, h⟩
    · have h := h.2 c4
      refine x_ldcw (v := -100000) dX9_spared_29 kc_RX9_314 ?_
      exact x_ireturn dX9_spared_32 ⟨_, rfl, rfl, rfl, h⟩
abbrev rm_X9_spell : Room := { frames := 7, cells := 0, slots := 0, locals := 154 }
def wp_X9_spell (I : MI) (v1 : Int32) (Q : Int32 → MI → Prop) : Prop :=
    (((-1) ≤ v1 → (wp_X6_write 3 I (fun I2 => (((¬ v1 = (-1) → (((I2 324 1) ≤ v1 → Q (-2) I2) ∧ (¬ (I2 324 1) ≤ v1 → (vp_in v1 256 ∧ Q (I2 325 (ix v1)) I2)))) ∧ (v1 = (-1) → Q (I2 324 1) I2)))))) ∧ (¬ (-1) ≤ v1 → Q (-1) I))
set_option maxRecDepth 20000 in
theorem mt_X9_spell {E : Ev} {l : Launch} {n : Nat} {R : MR} (hn : 336 ≤ n) (hG : GRx R) {I : MI} {L : ML} {v1 : Int32} {Q : Int32 → MI → Prop} (h : wp_X9_spell I v1 Q) : MX E l rm_X9_spell yX9_spell cX9_spell 2 (some .int) [.ref 0, .int v1] n I L R (Qi n R (P10 I L Q)) := by
  refine MX_of (ls := [(0, .ref 0), (1, .int v1)]) (by decide) (Nat.le_of_ble_eq_true rfl) rfl ?_
  unfold wp_X9_spell at h
  refine x_iload_n dX9_spell_0 rfl ?_
  refine x_iconst (v := (-1)) dX9_spell_1 ki_m1 ?_
  refine x_icmp_ge dX9_spell_2 (tgt := 7) rfl ⟨fun c1 => ?_, fun c1 => ?_⟩
  · have h := h.1 c1
    refine x_aload_n dX9_spell_7 rfl ?_
    refine x_getr (j := 324) dX9_spell_8 fk_RX9_44 (kl rfl hn) sh_0 (rt_0_6 hG) ?_
    refine x_aload_n dX9_spell_11 rfl ?_
    refine x_getr (j := 2) dX9_spell_12 fk_RX9_20 (kl rfl hn) sh_0 (rt_0_2 hG) ?_
    refine x_getr (j := 3) dX9_spell_15 fk_RX9_66 (Py_k play_2 hn 0 rfl) (Py_s0 play_2) (Py_r0 hG play_2) ?_
    refine x_cVv10 [.ref 3] (mt_X6_write hn hG (Py_plan play_2) h) dX9_spell_18 lk_RX9_331 (kl rfl hn) sh_324 rfl rfl (Nat.le_of_ble_eq_true rfl) (Rf_of rfl) (fun I2 h => ?_)
    refine x_iload_n dX9_spell_21 rfl ?_
    refine x_iconst (v := (-1)) dX9_spell_22 ki_m1 ?_
    refine x_icmp_ne dX9_spell_23 (tgt := 34) rfl ⟨fun c3 => ?_, fun c3 => ?_⟩
    · have h := h.1 c3
      refine x_iload_n dX9_spell_34 rfl ?_
      refine x_aload_n dX9_spell_35 rfl ?_
      refine x_getr (j := 324) dX9_spell_36 fk_RX9_44 (kl rfl hn) sh_0 (rt_0_6 hG) ?_
      refine x_geti dX9_spell_39 fk_RX9_334 (kl rfl hn) sh_324 ?_
      refine x_icmp_ge dX9_spell_42 (tgt := 57) rfl ⟨fun c4 => ?_, fun c4 => ?_⟩
      · have h := h.1 c4
        refine x_bipush (v := (-2)) dX9_spell_57 kb_m2 ?_
        exact x_ireturn dX9_spell_59 ⟨_, rfl, rfl, rfl, rfl, h⟩
      · have h := h.2 c4
        refine x_aload_n dX9_spell_45 rfl ?_
        refine x_getr (j := 324) dX9_spell_46 fk_RX9_44 (kl rfl hn) sh_0 (rt_0_6 hG) ?_
        refine x_getr (j := 325) dX9_spell_49 fk_RX9_337 (kl rfl hn) sh_324 (rt_324_0 hG) ?_
        refine x_iload_n dX9_spell_52 rfl ?_
        obtain ⟨b5, h⟩ := h
        refine x_baload dX9_spell_53 (kl rfl hn) sh_325 b5 ?_
        refine x_goto dX9_spell_54 (tgt := 59) rfl ?_
        exact x_ireturn dX9_spell_59 ⟨_, rfl, rfl, rfl, rfl, h⟩
    · have h := h.2 c3
      refine x_aload_n dX9_spell_26 rfl ?_
      refine x_getr (j := 324) dX9_spell_27 fk_RX9_44 (kl rfl hn) sh_0 (rt_0_6 hG) ?_
      refine x_geti dX9_spell_30 fk_RX9_334 (kl rfl hn) sh_324 ?_
      exact x_ireturn dX9_spell_33 ⟨_, rfl, rfl, rfl, rfl, h⟩
  · have h := h.2 c1
    refine x_iconst (v := (-1)) dX9_spell_5 ki_m1 ?_
    exact x_ireturn dX9_spell_6 ⟨_, rfl, rfl, rfl, rfl, h⟩
abbrev rm_X9_supply : Room := { frames := 4, cells := 0, slots := 0, locals := 112 }
def wp_X9_supply (I : MI) (L : ML) (v1 : Int32) (Q : Int32 → MI → ML → Prop) : Prop :=
    (wp_X1_hasPart 3 I v1 (fun x1 => (((x1 = 0 → Q (-1) I L) ∧ (¬ x1 = 0 → (vp_in v1 4 ∧ (((I 7 (ix v1)) < 9 → (wp_X0_remember 2 I L (fun I5 L6 => ((vp_in v1 4 ∧ (vp_in v1 4 ∧ (∀ I9, I9 = u2 I5 7 (ix v1) ((I5 7 (ix v1)) + 1) → (vp_in v1 4 ∧ (vp_in v1 4 ∧ (∀ I12, I12 = u2 I9 15 (ix v1) ((I9 15 (ix v1)) + 1) → (wp_X2_answerCalls 2 I12 L6 v1 (fun I13 L14 => ((vp_in v1 4 ∧ Q (I13 7 (ix v1)) I13 L14)))))))))))))) ∧ (¬ (I 7 (ix v1)) < 9 → Q (-1) I L))))))))
set_option maxRecDepth 20000 in
theorem mt_X9_supply {E : Ev} {l : Launch} {n : Nat} {R : MR} (hn : 336 ≤ n) (hG : GRx R) {I : MI} {L : ML} {v1 : Int32} {Q : Int32 → MI → ML → Prop} (h : wp_X9_supply I L v1 Q) : MX E l rm_X9_supply yX9_supply cX9_supply 2 (some .int) [.ref 0, .int v1] n I L R (Qi n R (P11 I L Q)) := by
  refine MX_of (ls := [(0, .ref 0), (1, .int v1)]) (by decide) (Nat.le_of_ble_eq_true rfl) rfl ?_
  unfold wp_X9_supply at h
  refine x_aload_n dX9_supply_0 rfl ?_
  refine x_getr (j := 2) dX9_supply_1 fk_RX9_20 (kl rfl hn) sh_0 (rt_0_2 hG) ?_
  refine x_getr (j := 3) dX9_supply_4 fk_RX9_66 (Py_k play_2 hn 0 rfl) (Py_s0 play_2) (Py_r0 hG play_2) ?_
  refine x_iload_n dX9_supply_7 rfl ?_
  refine x_cVi00 [.int v1] (mt_X1_hasPart hn hG (Py_plan play_2) h) dX9_supply_8 lk_RX9_131 (Pn_k (Py_plan play_2) hn 0 rfl) (Pn_s0 (Py_plan play_2)) rfl rfl (Nat.le_of_ble_eq_true rfl) (Rf_of rfl) (fun x1 h => ?_)
  refine x_if_eq dX9_supply_11 (tgt := 31) rfl ⟨fun c2 => ?_, fun c2 => ?_⟩
  · have h := h.1 c2
    refine x_iconst (v := (-1)) dX9_supply_31 ki_m1 ?_
    exact x_ireturn dX9_supply_32 ⟨_, rfl, rfl, rfl, h⟩
  · have h := h.2 c2
    refine x_aload_n dX9_supply_14 rfl ?_
    refine x_getr (j := 2) dX9_supply_15 fk_RX9_20 (kl rfl hn) sh_0 (rt_0_2 hG) ?_
    refine x_getr (j := 3) dX9_supply_18 fk_RX9_66 (Py_k play_2 hn 0 rfl) (Py_s0 play_2) (Py_r0 hG play_2) ?_
    refine x_getr (j := 7) dX9_supply_21 fk_RX9_134 (Pn_k (Py_plan play_2) hn 0 rfl) (Pn_s0 (Py_plan play_2)) (Pn_r8 hG (Py_plan play_2)) ?_
    refine x_iload_n dX9_supply_24 rfl ?_
    obtain ⟨b3, h⟩ := h
    refine x_iaload dX9_supply_25 (Pn_k (Py_plan play_2) hn 4 rfl) (Pn_s4 (Py_plan play_2)) b3 ?_
    refine x_bipush (v := 9) dX9_supply_26 kb_9 ?_
    refine x_icmp_lt dX9_supply_28 (tgt := 33) rfl ⟨fun c4 => ?_, fun c4 => ?_⟩
    · have h := h.1 c4
      refine x_aload_n dX9_supply_33 rfl ?_
      refine x_getr (j := 46) dX9_supply_34 fk_RX9_30 (kl rfl hn) sh_0 (rt_0_4 hG) ?_
      refine x_aload_n dX9_supply_37 rfl ?_
      refine x_getr (j := 2) dX9_supply_38 fk_RX9_20 (kl rfl hn) sh_0 (rt_0_2 hG) ?_
      refine x_cVv11 [.ref 2] (mt_X0_remember hn hG play_2 h) dX9_supply_41 lk_RX9_101 (kl rfl hn) sh_46 rfl rfl (Nat.le_of_ble_eq_true rfl) (Rf_of rfl) (fun I5 L6 h => ?_)
      refine x_aload_n dX9_supply_44 rfl ?_
      refine x_getr (j := 2) dX9_supply_45 fk_RX9_20 (kl rfl hn) sh_0 (rt_0_2 hG) ?_
      refine x_getr (j := 3) dX9_supply_48 fk_RX9_66 (Py_k play_2 hn 0 rfl) (Py_s0 play_2) (Py_r0 hG play_2) ?_
      refine x_getr (j := 7) dX9_supply_51 fk_RX9_134 (Pn_k (Py_plan play_2) hn 0 rfl) (Pn_s0 (Py_plan play_2)) (Pn_r8 hG (Py_plan play_2)) ?_
      refine x_iload_n dX9_supply_54 rfl ?_
      refine x_dup2 dX9_supply_55 rfl rfl ?_
      obtain ⟨b7, h⟩ := h
      refine x_iaload dX9_supply_56 (Pn_k (Py_plan play_2) hn 4 rfl) (Pn_s4 (Py_plan play_2)) b7 ?_
      refine x_iconst (v := 1) dX9_supply_57 ki_1 ?_
      refine x_iadd dX9_supply_58 ?_
      obtain ⟨b8, h⟩ := h
      refine x_iastore dX9_supply_59 (Pn_k (Py_plan play_2) hn 4 rfl) (Pn_s4 (Py_plan play_2)) b8 (fun I9 eI9 => ?_)
      have h := h I9 eI9
      refine x_aload_n dX9_supply_60 rfl ?_
      refine x_getr (j := 2) dX9_supply_61 fk_RX9_20 (kl rfl hn) sh_0 (rt_0_2 hG) ?_
      refine x_getr (j := 15) dX9_supply_64 fk_RX9_137 (Py_k play_2 hn 0 rfl) (Py_s0 play_2) (Py_r4 hG play_2) ?_
      refine x_iload_n dX9_supply_67 rfl ?_
      refine x_dup2 dX9_supply_68 rfl rfl ?_
      obtain ⟨b10, h⟩ := h
      refine x_iaload dX9_supply_69 (Py_k play_2 hn 13 rfl) (Py_s13 play_2) b10 ?_
      refine x_iconst (v := 1) dX9_supply_70 ki_1 ?_
      refine x_iadd dX9_supply_71 ?_
      obtain ⟨b11, h⟩ := h
      refine x_iastore dX9_supply_72 (Py_k play_2 hn 13 rfl) (Py_s13 play_2) b11 (fun I12 eI12 => ?_)
      have h := h I12 eI12
      refine x_aload_n dX9_supply_73 rfl ?_
      refine x_getr (j := 2) dX9_supply_74 fk_RX9_20 (kl rfl hn) sh_0 (rt_0_2 hG) ?_
      refine x_iload_n dX9_supply_77 rfl ?_
      refine x_cVv11 [.int v1] (mt_X2_answerCalls hn hG play_2 h) dX9_supply_78 lk_RX9_140 (Py_k play_2 hn 0 rfl) (Py_s0 play_2) rfl rfl (Nat.le_of_ble_eq_true rfl) (Rf_of rfl) (fun I13 L14 h => ?_)
      refine x_aload_n dX9_supply_81 rfl ?_
      refine x_getr (j := 2) dX9_supply_82 fk_RX9_20 (kl rfl hn) sh_0 (rt_0_2 hG) ?_
      refine x_getr (j := 3) dX9_supply_85 fk_RX9_66 (Py_k play_2 hn 0 rfl) (Py_s0 play_2) (Py_r0 hG play_2) ?_
      refine x_getr (j := 7) dX9_supply_88 fk_RX9_134 (Pn_k (Py_plan play_2) hn 0 rfl) (Pn_s0 (Py_plan play_2)) (Pn_r8 hG (Py_plan play_2)) ?_
      refine x_iload_n dX9_supply_91 rfl ?_
      obtain ⟨b15, h⟩ := h
      refine x_iaload dX9_supply_92 (Pn_k (Py_plan play_2) hn 4 rfl) (Pn_s4 (Py_plan play_2)) b15 ?_
      exact x_ireturn dX9_supply_93 ⟨_, rfl, rfl, rfl, h⟩
    · have h := h.2 c4
      refine x_iconst (v := (-1)) dX9_supply_31 ki_m1 ?_
      exact x_ireturn dX9_supply_32 ⟨_, rfl, rfl, rfl, h⟩
abbrev rm_X9_sure : Room := { frames := 3, cells := 0, slots := 0, locals := 71 }
def wp_X9_sure (I : MI) (L : ML) (v1 : Int32) (v2 : Int32) (v3 : Int32) (Q : Int32 → MI → ML → Prop) : Prop :=
    (wp_X1_hasCell 3 I v1 v2 (fun x1 => (((x1 = 0 → Q (-1) I L) ∧ (¬ x1 = 0 → ((v3 < 0 → Q (-1) I L) ∧ (¬ v3 < 0 → ((v3 ≤ 100 → (wp_X8_learnLack 3 I L (fun I5 L6 => ((wp_X9_placeOf v1 v2 (fun x7 => ((wp_X8_leastSure L6 x7 v3 (fun x8 => (Q x8 I5 L6)))))))))) ∧ (¬ v3 ≤ 100 → Q (-1) I L)))))))))
set_option maxRecDepth 20000 in
theorem mt_X9_sure {E : Ev} {l : Launch} {n : Nat} {R : MR} (hn : 336 ≤ n) (hG : GRx R) {I : MI} {L : ML} {v1 : Int32} {v2 : Int32} {v3 : Int32} {Q : Int32 → MI → ML → Prop} (h : wp_X9_sure I L v1 v2 v3 Q) : MX E l rm_X9_sure yX9_sure cX9_sure 4 (some .int) [.ref 0, .int v1, .int v2, .int v3] n I L R (Qi n R (P11 I L Q)) := by
  refine MX_of (ls := [(0, .ref 0), (1, .int v1), (2, .int v2), (3, .int v3)]) (by decide) (Nat.le_of_ble_eq_true rfl) rfl ?_
  unfold wp_X9_sure at h
  refine x_aload_n dX9_sure_0 rfl ?_
  refine x_getr (j := 2) dX9_sure_1 fk_RX9_20 (kl rfl hn) sh_0 (rt_0_2 hG) ?_
  refine x_getr (j := 3) dX9_sure_4 fk_RX9_66 (Py_k play_2 hn 0 rfl) (Py_s0 play_2) (Py_r0 hG play_2) ?_
  refine x_iload_n dX9_sure_7 rfl ?_
  refine x_iload_n dX9_sure_8 rfl ?_
  refine x_cVi00 [.int v1, .int v2] (mt_X1_hasCell hn hG (Py_plan play_2) h) dX9_sure_9 lk_RX9_89 (Pn_k (Py_plan play_2) hn 0 rfl) (Pn_s0 (Py_plan play_2)) rfl rfl (Nat.le_of_ble_eq_true rfl) (Rf_of rfl) (fun x1 h => ?_)
  refine x_if_eq dX9_sure_12 (tgt := 25) rfl ⟨fun c2 => ?_, fun c2 => ?_⟩
  · have h := h.1 c2
    refine x_iconst (v := (-1)) dX9_sure_25 ki_m1 ?_
    exact x_ireturn dX9_sure_26 ⟨_, rfl, rfl, rfl, h⟩
  · have h := h.2 c2
    refine x_iload_n dX9_sure_15 rfl ?_
    refine x_if_lt dX9_sure_16 (tgt := 25) rfl ⟨fun c3 => ?_, fun c3 => ?_⟩
    · have h := h.1 c3
      refine x_iconst (v := (-1)) dX9_sure_25 ki_m1 ?_
      exact x_ireturn dX9_sure_26 ⟨_, rfl, rfl, rfl, h⟩
    · have h := h.2 c3
      refine x_iload_n dX9_sure_19 rfl ?_
      refine x_bipush (v := 100) dX9_sure_20 kb_100 ?_
      refine x_icmp_le dX9_sure_22 (tgt := 27) rfl ⟨fun c4 => ?_, fun c4 => ?_⟩
      · have h := h.1 c4
        refine x_aload_n dX9_sure_27 rfl ?_
        refine x_getr (j := 326) dX9_sure_28 fk_RX9_51 (kl rfl hn) sh_0 (rt_0_7 hG) ?_
        refine x_aload_n dX9_sure_31 rfl ?_
        refine x_getr (j := 2) dX9_sure_32 fk_RX9_20 (kl rfl hn) sh_0 (rt_0_2 hG) ?_
        refine x_getr (j := 3) dX9_sure_35 fk_RX9_66 (Py_k play_2 hn 0 rfl) (Py_s0 play_2) (Py_r0 hG play_2) ?_
        refine x_cVv11 [.ref 3] (mt_X8_learnLack hn hG (Py_plan play_2) h) dX9_sure_38 lk_RX9_252 (kl rfl hn) sh_326 rfl rfl (Nat.le_of_ble_eq_true rfl) (Rf_of rfl) (fun I5 L6 h => ?_)
        refine x_aload_n dX9_sure_41 rfl ?_
        refine x_getr (j := 326) dX9_sure_42 fk_RX9_51 (kl rfl hn) sh_0 (rt_0_7 hG) ?_
        refine x_iload_n dX9_sure_45 rfl ?_
        refine x_iload_n dX9_sure_46 rfl ?_
        refine x_cSi00 [.int v1, .int v2] (mt_X9_placeOf hn hG h) dX9_sure_47 lk_RX9_93 rfl rfl (Nat.le_of_ble_eq_true rfl) (Rf_of rfl) (fun x7 h => ?_)
        refine x_iload_n dX9_sure_50 rfl ?_
        refine x_cVi00 [.int x7, .int v3] (mt_X8_leastSure hn hG h) dX9_sure_51 lk_RX9_266 (kl rfl hn) sh_326 rfl rfl (Nat.le_of_ble_eq_true rfl) (Rf_of rfl) (fun x8 h => ?_)
        exact x_ireturn dX9_sure_54 ⟨_, rfl, rfl, rfl, h⟩
      · have h := h.2 c4
        refine x_iconst (v := (-1)) dX9_sure_25 ki_m1 ?_
        exact x_ireturn dX9_sure_26 ⟨_, rfl, rfl, rfl, h⟩
abbrev rm_X9_text : Room := { frames := 8, cells := 0, slots := 0, locals := 178 }
def wp_X9_text (I : MI) (Q : Int32 → MI → Prop) : Prop :=
    (wp_X3_readAll I (I 0 1) (fun x1 I2 => ((∀ I3, I3 = u2 I2 0 1 0 → ((x1 = (-1) → (wp_X1_copyFrom 3 313 I3 (fun I5 => ((wp_X2_beginAnew 2 I5 (fun I6 => ((wp_X0_forget I6 (fun I7 => ((wp_X8_forget I7 (fun I8 => (Q ((I8 3 1) * (I8 3 0)) I8))))))))))))) ∧ (¬ x1 = (-1) → Q ((-4) - x1) I3))))))
set_option maxRecDepth 20000 in
theorem mt_X9_text {E : Ev} {l : Launch} {n : Nat} {R : MR} (hn : 336 ≤ n) (hG : GRx R) {I : MI} {L : ML} {Q : Int32 → MI → Prop} (h : wp_X9_text I Q) : MX E l rm_X9_text yX9_text cX9_text 2 (some .int) [.ref 0] n I L R (Qi n (u2 R 312 2 (some 1)) (P10 I L Q)) := by
  refine MX_of (ls := [(0, .ref 0)]) (by decide) (Nat.le_of_ble_eq_true rfl) rfl ?_
  unfold wp_X9_text at h
  refine x_aload_n dX9_text_0 rfl ?_
  refine x_getr (j := 312) dX9_text_1 fk_RX9_37 (kl rfl hn) sh_0 (rt_0_5 hG) ?_
  refine x_aload_n dX9_text_4 rfl ?_
  refine x_getr (j := 1) dX9_text_5 fk_RX9_9 (kl rfl hn) sh_0 (rt_0_0 hG) ?_
  refine x_aload_n dX9_text_8 rfl ?_
  refine x_geti dX9_text_9 fk_RX9_13 (kl rfl hn) sh_0 ?_
  refine x_cVi10 [.ref 1, .int (I 0 1)] (mt_X3_readAll hn hG h) dX9_text_12 lk_RX9_62 (kl rfl hn) sh_312 rfl rfl (Nat.le_of_ble_eq_true rfl) (Rf_of rfl) (fun x1 I2 h => ?_)
  refine x_istore_n (ls' := [(1, .int x1), (0, .ref 0)]) dX9_text_15 (Nat.le_of_ble_eq_true rfl) rfl ?_
  refine x_aload_n dX9_text_16 rfl ?_
  refine x_iconst (v := 0) dX9_text_17 ki_0 ?_
  refine x_puti dX9_text_18 fk_RX9_13 fw_7_1 (vp_nar_int _) rfl (kl rfl hn) sh_0 (fun I3 eI3 => ?_)
  have h := h I3 eI3
  refine x_iload_n dX9_text_21 rfl ?_
  refine x_iconst (v := (-1)) dX9_text_22 ki_m1 ?_
  refine x_icmp_eq dX9_text_23 (tgt := 31) rfl ⟨fun c4 => ?_, fun c4 => ?_⟩
  · have h := h.1 c4
    refine x_aload_n dX9_text_31 rfl ?_
    refine x_getr (j := 2) dX9_text_32 fk_RX9_20 (kl rfl hn) sh_0 (rt_0_2 (GRx_b hG)) ?_
    refine x_getr (j := 3) dX9_text_35 fk_RX9_66 (Py_k play_2 hn 0 rfl) (Py_s0 play_2) (Py_r0 (GRx_b hG) play_2) ?_
    refine x_aload_n dX9_text_38 rfl ?_
    refine x_getr (j := 312) dX9_text_39 fk_RX9_37 (kl rfl hn) sh_0 (rt_0_5 (GRx_b hG)) ?_
    refine x_getr (j := 313) dX9_text_42 fk_RX9_70 (kl rfl hn) sh_312 (rt_312_0 (GRx_b hG)) ?_
    refine x_cVv10 [.ref 313] (mt_X1_copyFrom hn (GRx_b hG) (Py_plan play_2) plan_313 h) dX9_text_45 lk_RX9_73 (Pn_k (Py_plan play_2) hn 0 rfl) (Pn_s0 (Py_plan play_2)) rfl rfl (Nat.le_of_ble_eq_true rfl) (Rf_of rfl) (fun I5 h => ?_)
    refine x_aload_n dX9_text_48 rfl ?_
    refine x_getr (j := 2) dX9_text_49 fk_RX9_20 (kl rfl hn) sh_0 (rt_0_2 (GRx_b hG)) ?_
    refine x_cVv10 [] (mt_X2_beginAnew hn (GRx_b hG) play_2 h) dX9_text_52 lk_RX9_55 (Py_k play_2 hn 0 rfl) (Py_s0 play_2) rfl rfl (Nat.le_of_ble_eq_true rfl) (Rf_of rfl) (fun I6 h => ?_)
    refine x_aload_n dX9_text_55 rfl ?_
    refine x_getr (j := 46) dX9_text_56 fk_RX9_30 (kl rfl hn) sh_0 (rt_0_4 (GRx_b hG)) ?_
    refine x_cVv10 [] (mt_X0_forget hn (GRx_b hG) h) dX9_text_59 lk_RX9_79 (kl rfl hn) sh_46 rfl rfl (Nat.le_of_ble_eq_true rfl) (Rf_of rfl) (fun I7 h => ?_)
    refine x_aload_n dX9_text_62 rfl ?_
    refine x_getr (j := 326) dX9_text_63 fk_RX9_51 (kl rfl hn) sh_0 (rt_0_7 (GRx_b hG)) ?_
    refine x_cVv10 [] (mt_X8_forget hn (GRx_b hG) h) dX9_text_66 lk_RX9_82 (kl rfl hn) sh_326 rfl rfl (Nat.le_of_ble_eq_true rfl) (Rf_of rfl) (fun I8 h => ?_)
    refine x_aload_n dX9_text_69 rfl ?_
    refine x_getr (j := 2) dX9_text_70 fk_RX9_20 (kl rfl hn) sh_0 (rt_0_2 (GRx_b hG)) ?_
    refine x_getr (j := 3) dX9_text_73 fk_RX9_66 (Py_k play_2 hn 0 rfl) (Py_s0 play_2) (Py_r0 (GRx_b hG) play_2) ?_
    refine x_geti dX9_text_76 fk_RX9_83 (Pn_k (Py_plan play_2) hn 0 rfl) (Pn_s0 (Py_plan play_2)) ?_
    refine x_aload_n dX9_text_79 rfl ?_
    refine x_getr (j := 2) dX9_text_80 fk_RX9_20 (kl rfl hn) sh_0 (rt_0_2 (GRx_b hG)) ?_
    refine x_getr (j := 3) dX9_text_83 fk_RX9_66 (Py_k play_2 hn 0 rfl) (Py_s0 play_2) (Py_r0 (GRx_b hG) play_2) ?_
    refine x_geti dX9_text_86 fk_RX9_86 (Pn_k (Py_plan play_2) hn 0 rfl) (Pn_s0 (Py_plan play_2)) ?_
    refine x_imul dX9_text_89 ?_
    exact x_ireturn dX9_text_90 ⟨_, rfl, rfl, rfl, rfl, h⟩
  · have h := h.2 c4
    refine x_bipush (v := (-4)) dX9_text_26 kb_m4 ?_
    refine x_iload_n dX9_text_28 rfl ?_
    refine x_isub dX9_text_29 ?_
    exact x_ireturn dX9_text_30 ⟨_, rfl, rfl, rfl, rfl, h⟩
abbrev rm_X9_undo : Room := { frames := 4, cells := 0, slots := 0, locals := 112 }
def wp_X9_undo (I : MI) (L : ML) (Q : Int32 → MI → ML → Prop) : Prop :=
    (wp_X0_takeBack 2 I L (fun x1 I2 L3 => (((¬ x1 = 0 → (wp_X8_forget I2 (fun I5 => (Q (I5 46 2) I5 L3)))) ∧ (x1 = 0 → Q (-1) I2 L3)))))
set_option maxRecDepth 20000 in
theorem mt_X9_undo {E : Ev} {l : Launch} {n : Nat} {R : MR} (hn : 336 ≤ n) (hG : GRx R) {I : MI} {L : ML} {Q : Int32 → MI → ML → Prop} (h : wp_X9_undo I L Q) : MX E l rm_X9_undo yX9_undo cX9_undo 1 (some .int) [.ref 0] n I L R (Qi n R (P11 I L Q)) := by
  refine MX_of (ls := [(0, .ref 0)]) (by decide) (Nat.le_of_ble_eq_true rfl) rfl ?_
  unfold wp_X9_undo at h
  refine x_aload_n dX9_undo_0 rfl ?_
  refine x_getr (j := 46) dX9_undo_1 fk_RX9_30 (kl rfl hn) sh_0 (rt_0_4 hG) ?_
  refine x_aload_n dX9_undo_4 rfl ?_
  refine x_getr (j := 2) dX9_undo_5 fk_RX9_20 (kl rfl hn) sh_0 (rt_0_2 hG) ?_
  refine x_cVi11 [.ref 2] (mt_X0_takeBack hn hG play_2 h) dX9_undo_8 lk_RX9_170 (kl rfl hn) sh_46 rfl rfl (Nat.le_of_ble_eq_true rfl) (Rf_of rfl) (fun x1 I2 L3 h => ?_)
  refine x_if_ne dX9_undo_11 (tgt := 16) rfl ⟨fun c4 => ?_, fun c4 => ?_⟩
  · have h := h.1 c4
    refine x_aload_n dX9_undo_16 rfl ?_
    refine x_getr (j := 326) dX9_undo_17 fk_RX9_51 (kl rfl hn) sh_0 (rt_0_7 hG) ?_
    refine x_cVv10 [] (mt_X8_forget hn hG h) dX9_undo_20 lk_RX9_82 (kl rfl hn) sh_326 rfl rfl (Nat.le_of_ble_eq_true rfl) (Rf_of rfl) (fun I5 h => ?_)
    refine x_aload_n dX9_undo_23 rfl ?_
    refine x_getr (j := 46) dX9_undo_24 fk_RX9_30 (kl rfl hn) sh_0 (rt_0_4 hG) ?_
    refine x_geti dX9_undo_27 fk_RX9_174 (kl rfl hn) sh_46 ?_
    exact x_ireturn dX9_undo_30 ⟨_, rfl, rfl, rfl, h⟩
  · have h := h.2 c4
    refine x_iconst (v := (-1)) dX9_undo_14 ki_m1 ?_
    exact x_ireturn dX9_undo_15 ⟨_, rfl, rfl, rfl, h⟩
abbrev rm_X9_waits : Room := { frames := 1, cells := 0, slots := 0, locals := 21 }
def wp_X9_waits (I : MI) (L : ML) (v1 : Int32) (Q : Int32 → Prop) : Prop :=
    (wp_X4_has 22 184 I v1 (fun x1 => (((x1 = 0 → Q (-1)) ∧ (¬ x1 = 0 → (wp_X4_at 22 184 L v1 (fun x3 => ((wp_X5_place x3 (fun x4 => ((wp_X9_partOf x4 (fun x5 => (Q x5))))))))))))))
set_option maxRecDepth 20000 in
theorem mt_X9_waits {E : Ev} {l : Launch} {n : Nat} {R : MR} (hn : 336 ≤ n) (hG : GRx R) {I : MI} {L : ML} {v1 : Int32} {Q : Int32 → Prop} (h : wp_X9_waits I L v1 Q) : MX E l rm_X9_waits yX9_waits cX9_waits 2 (some .int) [.ref 0, .int v1] n I L R (Qi n R (P00 I L Q)) := by
  refine MX_of (ls := [(0, .ref 0), (1, .int v1)]) (by decide) (Nat.le_of_ble_eq_true rfl) rfl ?_
  unfold wp_X9_waits at h
  refine x_aload_n dX9_waits_0 rfl ?_
  refine x_getr (j := 2) dX9_waits_1 fk_RX9_20 (kl rfl hn) sh_0 (rt_0_2 hG) ?_
  refine x_getr (j := 22) dX9_waits_4 fk_RX9_186 (Py_k play_2 hn 0 rfl) (Py_s0 play_2) (Py_r8 hG play_2) ?_
  refine x_iload_n dX9_waits_7 rfl ?_
  refine x_cVi00 [.int v1] (mt_X4_has hn hG (Py_waiting play_2) h) dX9_waits_8 lk_RX9_214 (Rw_k (Py_waiting play_2) hn 0 rfl) (Rw_s0 (Py_waiting play_2)) rfl rfl (Nat.le_of_ble_eq_true rfl) (Rf_of rfl) (fun x1 h => ?_)
  refine x_if_eq dX9_waits_11 (tgt := 34) rfl ⟨fun c2 => ?_, fun c2 => ?_⟩
  · have h := h.1 c2
    refine x_iconst (v := (-1)) dX9_waits_34 ki_m1 ?_
    exact x_ireturn dX9_waits_35 ⟨_, rfl, rfl, rfl, rfl, rfl, h⟩
  · have h := h.2 c2
    refine x_aload_n dX9_waits_14 rfl ?_
    refine x_getr (j := 2) dX9_waits_15 fk_RX9_20 (kl rfl hn) sh_0 (rt_0_2 hG) ?_
    refine x_getr (j := 22) dX9_waits_18 fk_RX9_186 (Py_k play_2 hn 0 rfl) (Py_s0 play_2) (Py_r8 hG play_2) ?_
    refine x_iload_n dX9_waits_21 rfl ?_
    refine x_cVl00 [.int v1] (mt_X4_at hn hG (Py_waiting play_2) h) dX9_waits_22 lk_RX9_217 (Rw_k (Py_waiting play_2) hn 0 rfl) (Rw_s0 (Py_waiting play_2)) rfl rfl (Nat.le_of_ble_eq_true rfl) (Rf_of rfl) (fun x3 h => ?_)
    refine x_cSi00 [.long x3] (mt_X5_place hn hG h) dX9_waits_25 lk_RX9_221 rfl rfl (Nat.le_of_ble_eq_true rfl) (Rf_of rfl) (fun x4 h => ?_)
    refine x_cSi00 [.int x4] (mt_X9_partOf hn hG h) dX9_waits_28 lk_RX9_230 rfl rfl (Nat.le_of_ble_eq_true rfl) (Rf_of rfl) (fun x5 h => ?_)
    refine x_goto dX9_waits_31 (tgt := 35) rfl ?_
    exact x_ireturn dX9_waits_35 ⟨_, rfl, rfl, rfl, rfl, rfl, h⟩
abbrev rm_X9_want : Room := { frames := 1, cells := 0, slots := 0, locals := 21 }
def wp_X9_want (I : MI) (L : ML) (v1 : Int32) (v2 : Int32) (Q : Int32 → Prop) : Prop :=
    (wp_X4_has 18 72 I v1 (fun x1 => (((¬ x1 = 0 → (wp_X4_at 18 72 L v1 (fun x3 => (((v2 = 0 → (wp_X5_place x3 (fun x5 => ((wp_X9_baseOf x5 (fun x6 => (Q x6))))))) ∧ (¬ v2 = 0 → ((v2 = 1 → (wp_X5_place x3 (fun x8 => ((wp_X9_partOf x8 (fun x9 => (Q x9))))))) ∧ (¬ v2 = 1 → ((v2 = 2 → (wp_X5_day x3 (fun x11 => (Q x11)))) ∧ (¬ v2 = 2 → ((v2 = 3 → (wp_X5_mark x3 (fun x13 => (Q x13)))) ∧ (¬ v2 = 3 → Q (-1))))))))))))) ∧ (x1 = 0 → Q (-1))))))
set_option maxRecDepth 20000 in
theorem mt_X9_want {E : Ev} {l : Launch} {n : Nat} {R : MR} (hn : 336 ≤ n) (hG : GRx R) {I : MI} {L : ML} {v1 : Int32} {v2 : Int32} {Q : Int32 → Prop} (h : wp_X9_want I L v1 v2 Q) : MX E l rm_X9_want yX9_want cX9_want 5 (some .int) [.ref 0, .int v1, .int v2] n I L R (Qi n R (P00 I L Q)) := by
  refine MX_of (ls := [(0, .ref 0), (1, .int v1), (2, .int v2)]) (by decide) (Nat.le_of_ble_eq_true rfl) rfl ?_
  unfold wp_X9_want at h
  refine x_aload_n dX9_want_0 rfl ?_
  refine x_getr (j := 2) dX9_want_1 fk_RX9_20 (kl rfl hn) sh_0 (rt_0_2 hG) ?_
  refine x_getr (j := 18) dX9_want_4 fk_RX9_199 (Py_k play_2 hn 0 rfl) (Py_s0 play_2) (Py_r6 hG play_2) ?_
  refine x_iload_n dX9_want_7 rfl ?_
  refine x_cVi00 [.int v1] (mt_X4_has hn hG (Py_wants play_2) h) dX9_want_8 lk_RX9_214 (Rw_k (Py_wants play_2) hn 0 rfl) (Rw_s0 (Py_wants play_2)) rfl rfl (Nat.le_of_ble_eq_true rfl) (Rf_of rfl) (fun x1 h => ?_)
  refine x_if_ne dX9_want_11 (tgt := 16) rfl ⟨fun c2 => ?_, fun c2 => ?_⟩
  · have h := h.1 c2
    refine x_aload_n dX9_want_16 rfl ?_
    refine x_getr (j := 2) dX9_want_17 fk_RX9_20 (kl rfl hn) sh_0 (rt_0_2 hG) ?_
    refine x_getr (j := 18) dX9_want_20 fk_RX9_199 (Py_k play_2 hn 0 rfl) (Py_s0 play_2) (Py_r6 hG play_2) ?_
    refine x_iload_n dX9_want_23 rfl ?_
    refine x_cVl00 [.int v1] (mt_X4_at hn hG (Py_wants play_2) h) dX9_want_24 lk_RX9_217 (Rw_k (Py_wants play_2) hn 0 rfl) (Rw_s0 (Py_wants play_2)) rfl rfl (Nat.le_of_ble_eq_true rfl) (Rf_of rfl) (fun x3 h => ?_)
    refine x_lstore_n (ls' := [(3, .long x3), (0, .ref 0), (1, .int v1), (2, .int v2)]) dX9_want_27 (Nat.le_of_ble_eq_true rfl) rfl ?_
    refine x_iload_n dX9_want_28 rfl ?_
    rcases Classical.em (v2 = 0) with c4 | c4
    · have h := h.1 c4
      refine x_tabIn (tgt := 60) dX9_want_29 (by rw [c4]; decide) (by rw [c4]; decide) (off := 31) (by rw [c4]; rfl) rfl ?_
      refine x_lload_n dX9_want_60 rfl ?_
      refine x_cSi00 [.long x3] (mt_X5_place hn hG h) dX9_want_61 lk_RX9_221 rfl rfl (Nat.le_of_ble_eq_true rfl) (Rf_of rfl) (fun x5 h => ?_)
      refine x_cSi00 [.int x5] (mt_X9_baseOf hn hG h) dX9_want_64 lk_RX9_227 rfl rfl (Nat.le_of_ble_eq_true rfl) (Rf_of rfl) (fun x6 h => ?_)
      exact x_ireturn dX9_want_67 ⟨_, rfl, rfl, rfl, rfl, rfl, h⟩
    · have h := h.2 c4
      rcases Classical.em (v2 = 1) with c7 | c7
      · have h := h.1 c7
        refine x_tabIn (tgt := 68) dX9_want_29 (by rw [c7]; decide) (by rw [c7]; decide) (off := 39) (by rw [c7]; rfl) rfl ?_
        refine x_lload_n dX9_want_68 rfl ?_
        refine x_cSi00 [.long x3] (mt_X5_place hn hG h) dX9_want_69 lk_RX9_221 rfl rfl (Nat.le_of_ble_eq_true rfl) (Rf_of rfl) (fun x8 h => ?_)
        refine x_cSi00 [.int x8] (mt_X9_partOf hn hG h) dX9_want_72 lk_RX9_230 rfl rfl (Nat.le_of_ble_eq_true rfl) (Rf_of rfl) (fun x9 h => ?_)
        exact x_ireturn dX9_want_75 ⟨_, rfl, rfl, rfl, rfl, rfl, h⟩
      · have h := h.2 c7
        rcases Classical.em (v2 = 2) with c10 | c10
        · have h := h.1 c10
          refine x_tabIn (tgt := 76) dX9_want_29 (by rw [c10]; decide) (by rw [c10]; decide) (off := 47) (by rw [c10]; rfl) rfl ?_
          refine x_lload_n dX9_want_76 rfl ?_
          refine x_cSi00 [.long x3] (mt_X5_day hn hG h) dX9_want_77 lk_RX9_233 rfl rfl (Nat.le_of_ble_eq_true rfl) (Rf_of rfl) (fun x11 h => ?_)
          exact x_ireturn dX9_want_80 ⟨_, rfl, rfl, rfl, rfl, rfl, h⟩
        · have h := h.2 c10
          rcases Classical.em (v2 = 3) with c12 | c12
          · have h := h.1 c12
            refine x_tabIn (tgt := 81) dX9_want_29 (by rw [c12]; decide) (by rw [c12]; decide) (off := 52) (by rw [c12]; rfl) rfl ?_
            refine x_lload_n dX9_want_81 rfl ?_
            refine x_cSi00 [.long x3] (mt_X5_mark hn hG h) dX9_want_82 lk_RX9_235 rfl rfl (Nat.le_of_ble_eq_true rfl) (Rf_of rfl) (fun x13 h => ?_)
            exact x_ireturn dX9_want_85 ⟨_, rfl, rfl, rfl, rfl, rfl, h⟩
          · have h := h.2 c12
            refine x_tabOut (tgt := 86) dX9_want_29 (sw_out 3 rfl (sw_4 c4 c7 c10 c12)) rfl ?_
            refine x_iconst (v := (-1)) dX9_want_86 ki_m1 ?_
            exact x_ireturn dX9_want_87 ⟨_, rfl, rfl, rfl, rfl, rfl, h⟩
  · have h := h.2 c2
    refine x_iconst (v := (-1)) dX9_want_14 ki_m1 ?_
    exact x_ireturn dX9_want_15 ⟨_, rfl, rfl, rfl, rfl, rfl, h⟩
abbrev rm_X9_way : Room := { frames := 1, cells := 0, slots := 0, locals := 21 }
def wp_X9_way (I : MI) (L : ML) (v1 : Int32) (v2 : Int32) (Q : Int32 → Prop) : Prop :=
    (wp_X4_has 16 184 I v1 (fun x1 => (((¬ x1 = 0 → (wp_X4_at 16 184 L v1 (fun x3 => (((v2 = 0 → (wp_X5_mark x3 (fun x5 => (Q x5)))) ∧ (¬ v2 = 0 → ((v2 = 1 → (wp_X5_number x3 (fun x7 => (Q x7)))) ∧ (¬ v2 = 1 → ((v2 = 2 → (wp_X5_place x3 (fun x9 => ((wp_X9_partOf x9 (fun x10 => (Q x10))))))) ∧ (¬ v2 = 2 → ((v2 = 3 → (wp_X5_mark x3 (fun x12 => (((¬ x12 = 2 → (wp_X5_place x3 (fun x14 => ((wp_X9_baseOf x14 (fun x15 => (Q x15))))))) ∧ (x12 = 2 → Q (-2))))))) ∧ (¬ v2 = 3 → ((v2 = 4 → (wp_X5_day x3 (fun x17 => (Q x17)))) ∧ (¬ v2 = 4 → Q (-1))))))))))))))) ∧ (x1 = 0 → Q (-1))))))
set_option maxRecDepth 20000 in
theorem mt_X9_way {E : Ev} {l : Launch} {n : Nat} {R : MR} (hn : 336 ≤ n) (hG : GRx R) {I : MI} {L : ML} {v1 : Int32} {v2 : Int32} {Q : Int32 → Prop} (h : wp_X9_way I L v1 v2 Q) : MX E l rm_X9_way yX9_way cX9_way 5 (some .int) [.ref 0, .int v1, .int v2] n I L R (Qi n R (P00 I L Q)) := by
  refine MX_of (ls := [(0, .ref 0), (1, .int v1), (2, .int v2)]) (by decide) (Nat.le_of_ble_eq_true rfl) rfl ?_
  unfold wp_X9_way at h
  refine x_aload_n dX9_way_0 rfl ?_
  refine x_getr (j := 2) dX9_way_1 fk_RX9_20 (kl rfl hn) sh_0 (rt_0_2 hG) ?_
  refine x_getr (j := 16) dX9_way_4 fk_RX9_241 (Py_k play_2 hn 0 rfl) (Py_s0 play_2) (Py_r5 hG play_2) ?_
  refine x_iload_n dX9_way_7 rfl ?_
  refine x_cVi00 [.int v1] (mt_X4_has hn hG (Py_ways play_2) h) dX9_way_8 lk_RX9_214 (Rw_k (Py_ways play_2) hn 0 rfl) (Rw_s0 (Py_ways play_2)) rfl rfl (Nat.le_of_ble_eq_true rfl) (Rf_of rfl) (fun x1 h => ?_)
  refine x_if_ne dX9_way_11 (tgt := 16) rfl ⟨fun c2 => ?_, fun c2 => ?_⟩
  · have h := h.1 c2
    refine x_aload_n dX9_way_16 rfl ?_
    refine x_getr (j := 2) dX9_way_17 fk_RX9_20 (kl rfl hn) sh_0 (rt_0_2 hG) ?_
    refine x_getr (j := 16) dX9_way_20 fk_RX9_241 (Py_k play_2 hn 0 rfl) (Py_s0 play_2) (Py_r5 hG play_2) ?_
    refine x_iload_n dX9_way_23 rfl ?_
    refine x_cVl00 [.int v1] (mt_X4_at hn hG (Py_ways play_2) h) dX9_way_24 lk_RX9_217 (Rw_k (Py_ways play_2) hn 0 rfl) (Rw_s0 (Py_ways play_2)) rfl rfl (Nat.le_of_ble_eq_true rfl) (Rf_of rfl) (fun x3 h => ?_)
    refine x_lstore_n (ls' := [(3, .long x3), (0, .ref 0), (1, .int v1), (2, .int v2)]) dX9_way_27 (Nat.le_of_ble_eq_true rfl) rfl ?_
    refine x_iload_n dX9_way_28 rfl ?_
    rcases Classical.em (v2 = 0) with c4 | c4
    · have h := h.1 c4
      refine x_tabIn (tgt := 64) dX9_way_29 (by rw [c4]; decide) (by rw [c4]; decide) (off := 35) (by rw [c4]; rfl) rfl ?_
      refine x_lload_n dX9_way_64 rfl ?_
      refine x_cSi00 [.long x3] (mt_X5_mark hn hG h) dX9_way_65 lk_RX9_235 rfl rfl (Nat.le_of_ble_eq_true rfl) (Rf_of rfl) (fun x5 h => ?_)
      exact x_ireturn dX9_way_68 ⟨_, rfl, rfl, rfl, rfl, rfl, h⟩
    · have h := h.2 c4
      rcases Classical.em (v2 = 1) with c6 | c6
      · have h := h.1 c6
        refine x_tabIn (tgt := 69) dX9_way_29 (by rw [c6]; decide) (by rw [c6]; decide) (off := 40) (by rw [c6]; rfl) rfl ?_
        refine x_lload_n dX9_way_69 rfl ?_
        refine x_cSi00 [.long x3] (mt_X5_number hn hG h) dX9_way_70 lk_RX9_244 rfl rfl (Nat.le_of_ble_eq_true rfl) (Rf_of rfl) (fun x7 h => ?_)
        exact x_ireturn dX9_way_73 ⟨_, rfl, rfl, rfl, rfl, rfl, h⟩
      · have h := h.2 c6
        rcases Classical.em (v2 = 2) with c8 | c8
        · have h := h.1 c8
          refine x_tabIn (tgt := 74) dX9_way_29 (by rw [c8]; decide) (by rw [c8]; decide) (off := 45) (by rw [c8]; rfl) rfl ?_
          refine x_lload_n dX9_way_74 rfl ?_
          refine x_cSi00 [.long x3] (mt_X5_place hn hG h) dX9_way_75 lk_RX9_221 rfl rfl (Nat.le_of_ble_eq_true rfl) (Rf_of rfl) (fun x9 h => ?_)
          refine x_cSi00 [.int x9] (mt_X9_partOf hn hG h) dX9_way_78 lk_RX9_230 rfl rfl (Nat.le_of_ble_eq_true rfl) (Rf_of rfl) (fun x10 h => ?_)
          exact x_ireturn dX9_way_81 ⟨_, rfl, rfl, rfl, rfl, rfl, h⟩
        · have h := h.2 c8
          rcases Classical.em (v2 = 3) with c11 | c11
          · have h := h.1 c11
            refine x_tabIn (tgt := 82) dX9_way_29 (by rw [c11]; decide) (by rw [c11]; decide) (off := 53) (by rw [c11]; rfl) rfl ?_
            refine x_lload_n dX9_way_82 rfl ?_
            refine x_cSi00 [.long x3] (mt_X5_mark hn hG h) dX9_way_83 lk_RX9_235 rfl rfl (Nat.le_of_ble_eq_true rfl) (Rf_of rfl) (fun x12 h => ?_)
            refine x_iconst (v := 2) dX9_way_86 ki_2 ?_
            refine x_icmp_ne dX9_way_87 (tgt := 95) rfl ⟨fun c13 => ?_, fun c13 => ?_⟩
            · have h := h.1 c13
              refine x_lload_n dX9_way_95 rfl ?_
              refine x_cSi00 [.long x3] (mt_X5_place hn hG h) dX9_way_96 lk_RX9_221 rfl rfl (Nat.le_of_ble_eq_true rfl) (Rf_of rfl) (fun x14 h => ?_)
              refine x_cSi00 [.int x14] (mt_X9_baseOf hn hG h) dX9_way_99 lk_RX9_227 rfl rfl (Nat.le_of_ble_eq_true rfl) (Rf_of rfl) (fun x15 h => ?_)
              exact x_ireturn dX9_way_102 ⟨_, rfl, rfl, rfl, rfl, rfl, h⟩
            · have h := h.2 c13
              refine x_bipush (v := (-2)) dX9_way_90 kb_m2 ?_
              refine x_goto dX9_way_92 (tgt := 102) rfl ?_
              exact x_ireturn dX9_way_102 ⟨_, rfl, rfl, rfl, rfl, rfl, h⟩
          · have h := h.2 c11
            rcases Classical.em (v2 = 4) with c16 | c16
            · have h := h.1 c16
              refine x_tabIn (tgt := 103) dX9_way_29 (by rw [c16]; decide) (by rw [c16]; decide) (off := 74) (by rw [c16]; rfl) rfl ?_
              refine x_lload_n dX9_way_103 rfl ?_
              refine x_cSi00 [.long x3] (mt_X5_day hn hG h) dX9_way_104 lk_RX9_233 rfl rfl (Nat.le_of_ble_eq_true rfl) (Rf_of rfl) (fun x17 h => ?_)
              exact x_ireturn dX9_way_107 ⟨_, rfl, rfl, rfl, rfl, rfl, h⟩
            · have h := h.2 c16
              refine x_tabOut (tgt := 108) dX9_way_29 (sw_out 4 rfl (sw_5 c4 c6 c8 c11 c16)) rfl ?_
              refine x_iconst (v := (-1)) dX9_way_108 ki_m1 ?_
              exact x_ireturn dX9_way_109 ⟨_, rfl, rfl, rfl, rfl, rfl, h⟩
  · have h := h.2 c2
    refine x_iconst (v := (-1)) dX9_way_14 ki_m1 ?_
    exact x_ireturn dX9_way_15 ⟨_, rfl, rfl, rfl, rfl, rfl, h⟩
abbrev rm_X9_would : Room := { frames := 6, cells := 0, slots := 0, locals := 168 }
def wp_X9_would (I : MI) (L : ML) (v1 : Int32) (v2 : Int32) (v3 : Int32) (Q : Int32 → MI → ML → Prop) : Prop :=
    (wp_X2_canGoBy 2 I v1 12 (fun x1 => (((¬ x1 = 0 → (wp_X2_copyFrom 24 2 I L (fun I3 L4 => ((wp_X2_drawDays 24 I3 L4 v1 v2 (fun x5 I6 L7 => ((wp_X2_tell 24 I6 L7 v3 (fun x8 => (Q x8 I6 L7)))))))))) ∧ (x1 = 0 → Q (-1) I L)))))
set_option maxRecDepth 20000 in
theorem mt_X9_would {E : Ev} {l : Launch} {n : Nat} {R : MR} (hn : 336 ≤ n) (hG : GRx R) {I : MI} {L : ML} {v1 : Int32} {v2 : Int32} {v3 : Int32} {Q : Int32 → MI → ML → Prop} (h : wp_X9_would I L v1 v2 v3 Q) : MX E l rm_X9_would yX9_would cX9_would 4 (some .int) [.ref 0, .int v1, .int v2, .int v3] n I L R (Qi n R (P11 I L Q)) := by
  refine MX_of (ls := [(0, .ref 0), (1, .int v1), (2, .int v2), (3, .int v3)]) (by decide) (Nat.le_of_ble_eq_true rfl) rfl ?_
  unfold wp_X9_would at h
  refine x_aload_n dX9_would_0 rfl ?_
  refine x_getr (j := 2) dX9_would_1 fk_RX9_20 (kl rfl hn) sh_0 (rt_0_2 hG) ?_
  refine x_iload_n dX9_would_4 rfl ?_
  refine x_bipush (v := 12) dX9_would_5 kb_12 ?_
  refine x_cVi00 [.int v1, .int 12] (mt_X2_canGoBy hn hG play_2 h) dX9_would_7 lk_RX9_109 (Py_k play_2 hn 0 rfl) (Py_s0 play_2) rfl rfl (Nat.le_of_ble_eq_true rfl) (Rf_of rfl) (fun x1 h => ?_)
  refine x_if_ne dX9_would_10 (tgt := 15) rfl ⟨fun c2 => ?_, fun c2 => ?_⟩
  · have h := h.1 c2
    refine x_aload_n dX9_would_15 rfl ?_
    refine x_getr (j := 24) dX9_would_16 fk_RX9_24 (kl rfl hn) sh_0 (rt_0_3 hG) ?_
    refine x_aload_n dX9_would_19 rfl ?_
    refine x_getr (j := 2) dX9_would_20 fk_RX9_20 (kl rfl hn) sh_0 (rt_0_2 hG) ?_
    refine x_cVv11 [.ref 2] (mt_X2_copyFrom hn hG play_24 play_2 h) dX9_would_23 lk_RX9_312 (Py_k play_24 hn 0 rfl) (Py_s0 play_24) rfl rfl (Nat.le_of_ble_eq_true rfl) (Rf_of rfl) (fun I3 L4 h => ?_)
    refine x_aload_n dX9_would_26 rfl ?_
    refine x_getr (j := 24) dX9_would_27 fk_RX9_24 (kl rfl hn) sh_0 (rt_0_3 hG) ?_
    refine x_iload_n dX9_would_30 rfl ?_
    refine x_iload_n dX9_would_31 rfl ?_
    refine x_cVi11 [.int v1, .int v2] (mt_X2_drawDays hn hG play_24 h) dX9_would_32 lk_RX9_118 (Py_k play_24 hn 0 rfl) (Py_s0 play_24) rfl rfl (Nat.le_of_ble_eq_true rfl) (Rf_of rfl) (fun x5 I6 L7 h => ?_)
    refine x_pop dX9_would_35 rfl ?_
    refine x_aload_n dX9_would_36 rfl ?_
    refine x_getr (j := 24) dX9_would_37 fk_RX9_24 (kl rfl hn) sh_0 (rt_0_3 hG) ?_
    refine x_iload_n dX9_would_40 rfl ?_
    refine x_cVi00 [.int v3] (mt_X2_tell hn hG play_24 h) dX9_would_41 lk_RX9_247 (Py_k play_24 hn 0 rfl) (Py_s0 play_24) rfl rfl (Nat.le_of_ble_eq_true rfl) (Rf_of rfl) (fun x8 h => ?_)
    exact x_ireturn dX9_would_44 ⟨_, rfl, rfl, rfl, h⟩
  · have h := h.2 c2
    refine x_iconst (v := (-1)) dX9_would_13 ki_m1 ?_
    exact x_ireturn dX9_would_14 ⟨_, rfl, rfl, rfl, h⟩
