abbrev rm_X0_forget : Room := { frames := 0, cells := 0, slots := 0, locals := 0 }
def wp_X0_forget (I : MI) (Q : MI → Prop) : Prop :=
    (∀ I1, I1 = u2 I 46 2 0 → Q I1)
set_option maxRecDepth 20000 in
theorem mt_X0_forget {E : Ev} {l : Launch} {n : Nat} {R : MR} (hn : 336 ≤ n) (hG : GRx R) {I : MI} {L : ML} {Q : MI → Prop} (h : wp_X0_forget I Q) : MX E l rm_X0_forget yX0_forget cX0_forget 1 none [.ref 46] n I L R (Qv n R (V10 I L Q)) := by
  refine MX_of (ls := [(0, .ref 46)]) (by decide) (Nat.le_of_ble_eq_true rfl) rfl ?_
  unfold wp_X0_forget at h
  refine x_aload_n dX0_forget_0 rfl ?_
  refine x_iconst (v := 0) dX0_forget_1 ki_0 ?_
  refine x_puti dX0_forget_2 fk_RX0_21 fw_0_2 (vp_nar_int _) rfl (kl rfl hn) sh_46 (fun I1 eI1 => ?_)
  have h := h I1 eI1
  exact x_return dX0_forget_5 ⟨rfl, rfl, rfl, rfl, h⟩
abbrev rm_X2_copyFrom : Room := { frames := 2, cells := 0, slots := 0, locals := 69 }
def wp_X2_copyFrom (o0 o1 : Nat) (I : MI) (L : ML) (Q : MI → ML → Prop) : Prop :=
    (wp_X1_copyFrom (o0 + 1) (o1 + 1) I (fun I1 => ((∀ I2, I2 = ur I1 (o0 + 10) (va_cpy (I1 (o1 + 10)) (I1 (o0 + 10)) (ix 0) (ix 0) (ix 16)) → (∀ I3, I3 = ur I2 (o0 + 11) (va_cpy (I2 (o1 + 11)) (I2 (o0 + 11)) (ix 0) (ix 0) (ix 16)) → (∀ I4, I4 = ur I3 (o0 + 12) (va_cpy (I3 (o1 + 12)) (I3 (o0 + 12)) (ix 0) (ix 0) (ix 16)) → (∀ I5, I5 = ur I4 (o0 + 13) (va_cpy (I4 (o1 + 13)) (I4 (o0 + 13)) (ix 0) (ix 0) (ix 4)) → (wp_X4_copyFrom (o0 + 14) 184 (o1 + 14) 184 I5 L (fun I6 L7 => ((wp_X4_copyFrom (o0 + 16) 72 (o1 + 16) 72 I6 L7 (fun I8 L9 => ((wp_X4_copyFrom (o0 + 18) 184 (o1 + 18) 184 I8 L9 (fun I10 L11 => ((wp_X4_copyFrom (o0 + 20) 184 (o1 + 20) 184 I10 L11 (fun I12 L13 => ((∀ I14, I14 = u2 I12 o0 9 (I12 o1 9) → (∀ I15, I15 = u2 I14 o0 10 (I14 o1 10) → (∀ I16, I16 = u2 I15 o0 11 (I15 o1 11) → (∀ I17, I17 = u2 I16 o0 12 (I16 o1 12) → (∀ I18, I18 = u2 I17 o0 13 (I17 o1 13) → (∀ I19, I19 = u2 I18 o0 14 (I18 o1 14) → (∀ I20, I20 = u2 I19 o0 15 (I19 o1 15) → (∀ I21, I21 = u2 I20 o0 16 (I20 o1 16) → (∀ I22, I22 = u2 I21 o0 17 (I21 o1 17) → (∀ I23, I23 = u2 I22 o0 18 (I22 o1 18) → Q I23 L13)))))))))))))))))))))))))))))
set_option maxRecDepth 20000 in
theorem mt_X2_copyFrom {E : Ev} {l : Launch} {n : Nat} {R : MR} {o0 o1 : Nat} (hn : 336 ≤ n) (hG : GRx R) (ho0 : isPlay o0) (ho1 : isPlay o1) {I : MI} {L : ML} {Q : MI → ML → Prop} (h : wp_X2_copyFrom o0 o1 I L Q) : MX E l rm_X2_copyFrom yX2_copyFrom cX2_copyFrom 2 none [.ref o0, .ref o1] n I L R (Qv n R (V11 I L Q)) := by
  refine MX_of (ls := [(0, .ref o0), (1, .ref o1)]) (by decide) (Nat.le_of_ble_eq_true rfl) rfl ?_
  unfold wp_X2_copyFrom at h
  refine x_aload_n dX2_copyFrom_0 rfl ?_
  refine x_getr (j := o0 + 1) dX2_copyFrom_1 fk_RX2_12 (Py_k ho0 hn 0 rfl) (Py_s0 ho0) (Py_r0 hG ho0) ?_
  refine x_aload_n dX2_copyFrom_4 rfl ?_
  refine x_getr (j := o1 + 1) dX2_copyFrom_5 fk_RX2_12 (Py_k ho1 hn 0 rfl) (Py_s0 ho1) (Py_r0 hG ho1) ?_
  refine x_cVv10 [.ref (o1 + 1)] (mt_X1_copyFrom hn hG (Py_plan ho0) (Py_plan ho1) h) dX2_copyFrom_8 lk_RX2_89 (Pn_k (Py_plan ho0) hn 0 rfl) (Pn_s0 (Py_plan ho0)) rfl rfl (Nat.le_of_ble_eq_true rfl) (Rf_of rfl) (fun I1 h => ?_)
  refine x_aload_n dX2_copyFrom_11 rfl ?_
  refine x_getr (j := o1 + 10) dX2_copyFrom_12 fk_RX2_18 (Py_k ho1 hn 0 rfl) (Py_s0 ho1) (Py_r1 hG ho1) ?_
  refine x_iconst (v := 0) dX2_copyFrom_15 ki_0 ?_
  refine x_aload_n dX2_copyFrom_16 rfl ?_
  refine x_getr (j := o0 + 10) dX2_copyFrom_17 fk_RX2_18 (Py_k ho0 hn 0 rfl) (Py_s0 ho0) (Py_r1 hG ho0) ?_
  refine x_iconst (v := 0) dX2_copyFrom_20 ki_0 ?_
  refine x_bipush (v := 16) dX2_copyFrom_21 kb_16 ?_
  refine x_copyi dX2_copyFrom_23 lk_RX2_93 (Py_k ho1 hn 10 rfl) (Py_s10 ho1) (Py_k ho0 hn 10 rfl) (Py_s10 ho0) (by decide) (by decide) (by decide) (by decide) (by decide) ⟨Nat.le_of_ble_eq_true rfl, Nat.le_of_ble_eq_true rfl⟩ (fun I2 eI2 => ?_)
  have h := h I2 eI2
  refine x_aload_n dX2_copyFrom_26 rfl ?_
  refine x_getr (j := o1 + 11) dX2_copyFrom_27 fk_RX2_22 (Py_k ho1 hn 0 rfl) (Py_s0 ho1) (Py_r2 hG ho1) ?_
  refine x_iconst (v := 0) dX2_copyFrom_30 ki_0 ?_
  refine x_aload_n dX2_copyFrom_31 rfl ?_
  refine x_getr (j := o0 + 11) dX2_copyFrom_32 fk_RX2_22 (Py_k ho0 hn 0 rfl) (Py_s0 ho0) (Py_r2 hG ho0) ?_
  refine x_iconst (v := 0) dX2_copyFrom_35 ki_0 ?_
  refine x_bipush (v := 16) dX2_copyFrom_36 kb_16 ?_
  refine x_copyi dX2_copyFrom_38 lk_RX2_93 (Py_k ho1 hn 11 rfl) (Py_s11 ho1) (Py_k ho0 hn 11 rfl) (Py_s11 ho0) (by decide) (by decide) (by decide) (by decide) (by decide) ⟨Nat.le_of_ble_eq_true rfl, Nat.le_of_ble_eq_true rfl⟩ (fun I3 eI3 => ?_)
  have h := h I3 eI3
  refine x_aload_n dX2_copyFrom_41 rfl ?_
  refine x_getr (j := o1 + 12) dX2_copyFrom_42 fk_RX2_25 (Py_k ho1 hn 0 rfl) (Py_s0 ho1) (Py_r3 hG ho1) ?_
  refine x_iconst (v := 0) dX2_copyFrom_45 ki_0 ?_
  refine x_aload_n dX2_copyFrom_46 rfl ?_
  refine x_getr (j := o0 + 12) dX2_copyFrom_47 fk_RX2_25 (Py_k ho0 hn 0 rfl) (Py_s0 ho0) (Py_r3 hG ho0) ?_
  refine x_iconst (v := 0) dX2_copyFrom_50 ki_0 ?_
  refine x_bipush (v := 16) dX2_copyFrom_51 kb_16 ?_
  refine x_copyi dX2_copyFrom_53 lk_RX2_93 (Py_k ho1 hn 12 rfl) (Py_s12 ho1) (Py_k ho0 hn 12 rfl) (Py_s12 ho0) (by decide) (by decide) (by decide) (by decide) (by decide) ⟨Nat.le_of_ble_eq_true rfl, Nat.le_of_ble_eq_true rfl⟩ (fun I4 eI4 => ?_)
  have h := h I4 eI4
  refine x_aload_n dX2_copyFrom_56 rfl ?_
  refine x_getr (j := o1 + 13) dX2_copyFrom_57 fk_RX2_28 (Py_k ho1 hn 0 rfl) (Py_s0 ho1) (Py_r4 hG ho1) ?_
  refine x_iconst (v := 0) dX2_copyFrom_60 ki_0 ?_
  refine x_aload_n dX2_copyFrom_61 rfl ?_
  refine x_getr (j := o0 + 13) dX2_copyFrom_62 fk_RX2_28 (Py_k ho0 hn 0 rfl) (Py_s0 ho0) (Py_r4 hG ho0) ?_
  refine x_iconst (v := 0) dX2_copyFrom_65 ki_0 ?_
  refine x_iconst (v := 4) dX2_copyFrom_66 ki_4 ?_
  refine x_copyi dX2_copyFrom_67 lk_RX2_93 (Py_k ho1 hn 13 rfl) (Py_s13 ho1) (Py_k ho0 hn 13 rfl) (Py_s13 ho0) (by decide) (by decide) (by decide) (by decide) (by decide) ⟨Nat.le_of_ble_eq_true rfl, Nat.le_of_ble_eq_true rfl⟩ (fun I5 eI5 => ?_)
  have h := h I5 eI5
  refine x_aload_n dX2_copyFrom_70 rfl ?_
  refine x_getr (j := o0 + 14) dX2_copyFrom_71 fk_RX2_36 (Py_k ho0 hn 0 rfl) (Py_s0 ho0) (Py_r5 hG ho0) ?_
  refine x_aload_n dX2_copyFrom_74 rfl ?_
  refine x_getr (j := o1 + 14) dX2_copyFrom_75 fk_RX2_36 (Py_k ho1 hn 0 rfl) (Py_s0 ho1) (Py_r5 hG ho1) ?_
  refine x_cVv11 [.ref (o1 + 14)] (mt_X4_copyFrom hn hG (Py_ways ho0) (Py_ways ho1) h) dX2_copyFrom_78 lk_RX2_99 (Rw_k (Py_ways ho0) hn 0 rfl) (Rw_s0 (Py_ways ho0)) rfl rfl (Nat.le_of_ble_eq_true rfl) (Rf_of rfl) (fun I6 L7 h => ?_)
  refine x_aload_n dX2_copyFrom_81 rfl ?_
  refine x_getr (j := o0 + 16) dX2_copyFrom_82 fk_RX2_40 (Py_k ho0 hn 0 rfl) (Py_s0 ho0) (Py_r6 hG ho0) ?_
  refine x_aload_n dX2_copyFrom_85 rfl ?_
  refine x_getr (j := o1 + 16) dX2_copyFrom_86 fk_RX2_40 (Py_k ho1 hn 0 rfl) (Py_s0 ho1) (Py_r6 hG ho1) ?_
  refine x_cVv11 [.ref (o1 + 16)] (mt_X4_copyFrom hn hG (Py_wants ho0) (Py_wants ho1) h) dX2_copyFrom_89 lk_RX2_99 (Rw_k (Py_wants ho0) hn 0 rfl) (Rw_s0 (Py_wants ho0)) rfl rfl (Nat.le_of_ble_eq_true rfl) (Rf_of rfl) (fun I8 L9 h => ?_)
  refine x_aload_n dX2_copyFrom_92 rfl ?_
  refine x_getr (j := o0 + 18) dX2_copyFrom_93 fk_RX2_43 (Py_k ho0 hn 0 rfl) (Py_s0 ho0) (Py_r7 hG ho0) ?_
  refine x_aload_n dX2_copyFrom_96 rfl ?_
  refine x_getr (j := o1 + 18) dX2_copyFrom_97 fk_RX2_43 (Py_k ho1 hn 0 rfl) (Py_s0 ho1) (Py_r7 hG ho1) ?_
  refine x_cVv11 [.ref (o1 + 18)] (mt_X4_copyFrom hn hG (Py_calls ho0) (Py_calls ho1) h) dX2_copyFrom_100 lk_RX2_99 (Rw_k (Py_calls ho0) hn 0 rfl) (Rw_s0 (Py_calls ho0)) rfl rfl (Nat.le_of_ble_eq_true rfl) (Rf_of rfl) (fun I10 L11 h => ?_)
  refine x_aload_n dX2_copyFrom_103 rfl ?_
  refine x_getr (j := o0 + 20) dX2_copyFrom_104 fk_RX2_46 (Py_k ho0 hn 0 rfl) (Py_s0 ho0) (Py_r8 hG ho0) ?_
  refine x_aload_n dX2_copyFrom_107 rfl ?_
  refine x_getr (j := o1 + 20) dX2_copyFrom_108 fk_RX2_46 (Py_k ho1 hn 0 rfl) (Py_s0 ho1) (Py_r8 hG ho1) ?_
  refine x_cVv11 [.ref (o1 + 20)] (mt_X4_copyFrom hn hG (Py_waiting ho0) (Py_waiting ho1) h) dX2_copyFrom_111 lk_RX2_99 (Rw_k (Py_waiting ho0) hn 0 rfl) (Rw_s0 (Py_waiting ho0)) rfl rfl (Nat.le_of_ble_eq_true rfl) (Rf_of rfl) (fun I12 L13 h => ?_)
  refine x_aload_n dX2_copyFrom_114 rfl ?_
  refine x_aload_n dX2_copyFrom_115 rfl ?_
  refine x_geti dX2_copyFrom_116 fk_RX2_49 (Py_k ho1 hn 0 rfl) (Py_s0 ho1) ?_
  refine x_puti dX2_copyFrom_119 fk_RX2_49 fw_2_9 (vp_nar_int _) rfl (Py_k ho0 hn 0 rfl) (Py_s0 ho0) (fun I14 eI14 => ?_)
  have h := h I14 eI14
  refine x_aload_n dX2_copyFrom_122 rfl ?_
  refine x_aload_n dX2_copyFrom_123 rfl ?_
  refine x_geti dX2_copyFrom_124 fk_RX2_53 (Py_k ho1 hn 0 rfl) (Py_s0 ho1) ?_
  refine x_puti dX2_copyFrom_127 fk_RX2_53 fw_2_10 (vp_nar_int _) rfl (Py_k ho0 hn 0 rfl) (Py_s0 ho0) (fun I15 eI15 => ?_)
  have h := h I15 eI15
  refine x_aload_n dX2_copyFrom_130 rfl ?_
  refine x_aload_n dX2_copyFrom_131 rfl ?_
  refine x_geti dX2_copyFrom_132 fk_RX2_56 (Py_k ho1 hn 0 rfl) (Py_s0 ho1) ?_
  refine x_puti dX2_copyFrom_135 fk_RX2_56 fw_2_11 (vp_nar_int _) rfl (Py_k ho0 hn 0 rfl) (Py_s0 ho0) (fun I16 eI16 => ?_)
  have h := h I16 eI16
  refine x_aload_n dX2_copyFrom_138 rfl ?_
  refine x_aload_n dX2_copyFrom_139 rfl ?_
  refine x_geti dX2_copyFrom_140 fk_RX2_59 (Py_k ho1 hn 0 rfl) (Py_s0 ho1) ?_
  refine x_puti dX2_copyFrom_143 fk_RX2_59 fw_2_12 (vp_nar_int _) rfl (Py_k ho0 hn 0 rfl) (Py_s0 ho0) (fun I17 eI17 => ?_)
  have h := h I17 eI17
  refine x_aload_n dX2_copyFrom_146 rfl ?_
  refine x_aload_n dX2_copyFrom_147 rfl ?_
  refine x_geti dX2_copyFrom_148 fk_RX2_62 (Py_k ho1 hn 0 rfl) (Py_s0 ho1) ?_
  refine x_puti dX2_copyFrom_151 fk_RX2_62 fw_2_13 (vp_nar_int _) rfl (Py_k ho0 hn 0 rfl) (Py_s0 ho0) (fun I18 eI18 => ?_)
  have h := h I18 eI18
  refine x_aload_n dX2_copyFrom_154 rfl ?_
  refine x_aload_n dX2_copyFrom_155 rfl ?_
  refine x_geti dX2_copyFrom_156 fk_RX2_65 (Py_k ho1 hn 0 rfl) (Py_s0 ho1) ?_
  refine x_puti dX2_copyFrom_159 fk_RX2_65 fw_2_14 (vp_nar_int _) rfl (Py_k ho0 hn 0 rfl) (Py_s0 ho0) (fun I19 eI19 => ?_)
  have h := h I19 eI19
  refine x_aload_n dX2_copyFrom_162 rfl ?_
  refine x_aload_n dX2_copyFrom_163 rfl ?_
  refine x_geti dX2_copyFrom_164 fk_RX2_68 (Py_k ho1 hn 0 rfl) (Py_s0 ho1) ?_
  refine x_puti dX2_copyFrom_167 fk_RX2_68 fw_2_15 (vp_nar_int _) rfl (Py_k ho0 hn 0 rfl) (Py_s0 ho0) (fun I20 eI20 => ?_)
  have h := h I20 eI20
  refine x_aload_n dX2_copyFrom_170 rfl ?_
  refine x_aload_n dX2_copyFrom_171 rfl ?_
  refine x_geti dX2_copyFrom_172 fk_RX2_71 (Py_k ho1 hn 0 rfl) (Py_s0 ho1) ?_
  refine x_puti dX2_copyFrom_175 fk_RX2_71 fw_2_16 (vp_nar_int _) rfl (Py_k ho0 hn 0 rfl) (Py_s0 ho0) (fun I21 eI21 => ?_)
  have h := h I21 eI21
  refine x_aload_n dX2_copyFrom_178 rfl ?_
  refine x_aload_n dX2_copyFrom_179 rfl ?_
  refine x_geti dX2_copyFrom_180 fk_RX2_74 (Py_k ho1 hn 0 rfl) (Py_s0 ho1) ?_
  refine x_puti dX2_copyFrom_183 fk_RX2_74 fw_2_17 (vp_nar_int _) rfl (Py_k ho0 hn 0 rfl) (Py_s0 ho0) (fun I22 eI22 => ?_)
  have h := h I22 eI22
  refine x_aload_n dX2_copyFrom_186 rfl ?_
  refine x_aload_n dX2_copyFrom_187 rfl ?_
  refine x_geti dX2_copyFrom_188 fk_RX2_77 (Py_k ho1 hn 0 rfl) (Py_s0 ho1) ?_
  refine x_puti dX2_copyFrom_191 fk_RX2_77 fw_2_18 (vp_nar_int _) rfl (Py_k ho0 hn 0 rfl) (Py_s0 ho0) (fun I23 eI23 => ?_)
  have h := h I23 eI23
  exact x_return dX2_copyFrom_194 ⟨rfl, rfl, rfl, h⟩
abbrev rm_X0_remember : Room := { frames := 3, cells := 0, slots := 0, locals := 90 }
def jn_X0_remember_41 (I : MI) (L : ML) (s0 : Int32) (Q : MI → ML → Prop) : Prop :=
    (∀ I5, I5 = u2 I 46 1 s0 → (∀ I6, I6 = u2 I5 46 2 (if 12 < ((I5 46 2) + 1) then 12 else ((I5 46 2) + 1)) → Q I6 L))
set_option maxRecDepth 20000 in
theorem jnt_X0_remember_41 {E : Ev} {l : Launch} {n : Nat} {R : MR} {o1 : Nat} (hn : 336 ≤ n) (hG : GRx R) (ho1 : isPlay o1) {I0 : MI} {L0 : ML} {Q : MI → ML → Prop} {I : MI} {L : ML} {s0 : Int32} (h : jn_X0_remember_41 I L s0 Q) : X E l rm_X0_remember yX0_remember cX0_remember 3 none noX (ZM E rm_X0_remember (Qv n R (V11 I0 L0 Q))) 41 [(0, .ref 46)] [.int s0, .ref 46] n I L R 0 0 := by
  unfold jn_X0_remember_41 at h
  refine x_puti dX0_remember_41 fk_RX0_17 fw_0_1 (vp_nar_int _) rfl (kl rfl hn) sh_46 (fun I5 eI5 => ?_)
  have h := h I5 eI5
  refine x_aload_n dX0_remember_44 rfl ?_
  refine x_aload_n dX0_remember_45 rfl ?_
  refine x_geti dX0_remember_46 fk_RX0_21 (kl rfl hn) sh_46 ?_
  refine x_iconst (v := 1) dX0_remember_49 ki_1 ?_
  refine x_iadd dX0_remember_50 ?_
  refine x_bipush (v := 12) dX0_remember_51 kb_12 ?_
  refine x_mmin dX0_remember_53 lk_RX0_29 ⟨Nat.le_of_ble_eq_true rfl, Nat.le_of_ble_eq_true rfl, Nat.le_refl _, Nat.le_refl _⟩ ?_
  refine x_puti dX0_remember_56 fk_RX0_21 fw_0_2 (vp_nar_int _) rfl (kl rfl hn) sh_46 (fun I6 eI6 => ?_)
  have h := h I6 eI6
  exact x_return dX0_remember_59 ⟨rfl, rfl, rfl, h⟩
def wp_X0_remember (o1 : Nat) (I : MI) (L : ML) (Q : MI → ML → Prop) : Prop :=
    (vp_in (I 46 1) 12 ∧ (wp_X2_copyFrom (48 + 22 * ix (I 46 1)) o1 I L (fun I2 L3 => (((12 ≤ ((I2 46 1) + 1) → (jn_X0_remember_41 I2 L3 0 Q)) ∧ (¬ 12 ≤ ((I2 46 1) + 1) → (jn_X0_remember_41 I2 L3 ((I2 46 1) + 1) Q)))))))
set_option maxRecDepth 20000 in
theorem mt_X0_remember {E : Ev} {l : Launch} {n : Nat} {R : MR} {o1 : Nat} (hn : 336 ≤ n) (hG : GRx R) (ho1 : isPlay o1) {I : MI} {L : ML} {Q : MI → ML → Prop} (h : wp_X0_remember o1 I L Q) : MX E l rm_X0_remember yX0_remember cX0_remember 3 none [.ref 46, .ref o1] n I L R (Qv n R (V11 I L Q)) := by
  refine MX_of (ls := [(0, .ref 46), (1, .ref o1)]) (by decide) (Nat.le_of_ble_eq_true rfl) rfl ?_
  unfold wp_X0_remember at h
  refine x_aload_n dX0_remember_0 rfl ?_
  refine x_getr (j := 47) dX0_remember_1 fk_RX0_11 (kl rfl hn) sh_46 (rt_46_0 hG) ?_
  refine x_aload_n dX0_remember_4 rfl ?_
  refine x_geti dX0_remember_5 fk_RX0_17 (kl rfl hn) sh_46 ?_
  obtain ⟨b1, h⟩ := h
  refine x_aaload (r := 48 + 22 * ix (I 46 1)) dX0_remember_8 (kl rfl hn) sh_47 b1 (kp_R hG b1) ?_
  refine x_astore_n (ls' := [(2, .ref (48 + 22 * ix (I 46 1))), (0, .ref 46), (1, .ref o1)]) dX0_remember_9 (Nat.le_of_ble_eq_true rfl) rfl ?_
  refine x_aload_n dX0_remember_10 rfl ?_
  refine x_ifnull dX0_remember_11 ?_
  refine x_aload_n dX0_remember_14 rfl ?_
  refine x_aload_n dX0_remember_15 rfl ?_
  refine x_cVv11 [.ref o1] (mt_X2_copyFrom hn hG (kp_P b1) ho1 h) dX0_remember_16 lk_RX0_25 (Py_k (kp_P b1) hn 0 rfl) (Py_s0 (kp_P b1)) rfl rfl (Nat.le_of_ble_eq_true rfl) (Rf_of rfl) (fun I2 L3 h => ?_)
  refine x_aload_n dX0_remember_19 rfl ?_
  refine x_aload_n dX0_remember_20 rfl ?_
  refine x_geti dX0_remember_21 fk_RX0_17 (kl rfl hn) sh_46 ?_
  refine x_iconst (v := 1) dX0_remember_24 ki_1 ?_
  refine x_iadd dX0_remember_25 ?_
  refine x_bipush (v := 12) dX0_remember_26 kb_12 ?_
  refine x_icmp_ge dX0_remember_28 (tgt := 40) rfl ⟨fun c4 => ?_, fun c4 => ?_⟩
  · have h := h.1 c4
    refine x_iconst (v := 0) dX0_remember_40 ki_0 ?_
    refine x_ls (ls' := [(0, .ref 46)]) [1] rfl ?_
    exact jnt_X0_remember_41 hn hG ho1  h
  · have h := h.2 c4
    refine x_aload_n dX0_remember_31 rfl ?_
    refine x_geti dX0_remember_32 fk_RX0_17 (kl rfl hn) sh_46 ?_
    refine x_iconst (v := 1) dX0_remember_35 ki_1 ?_
    refine x_iadd dX0_remember_36 ?_
    refine x_goto dX0_remember_37 (tgt := 41) rfl ?_
    refine x_ls (ls' := [(0, .ref 46)]) [1] rfl ?_
    exact jnt_X0_remember_41 hn hG ho1  h
abbrev rm_X0_takeBack : Room := { frames := 3, cells := 0, slots := 0, locals := 90 }
def jn_X0_takeBack_28 (o1 : Nat) (I : MI) (L : ML) (s0 : Int32) (Q : Int32 → MI → ML → Prop) : Prop :=
    (∀ I3, I3 = u2 I 46 1 s0 → (∀ I4, I4 = u2 I3 46 2 ((I3 46 2) - 1) → (vp_in (I4 46 1) 12 ∧ (wp_X2_copyFrom o1 (48 + 22 * ix (I4 46 1)) I4 L (fun I6 L7 => (Q 1 I6 L7))))))
set_option maxRecDepth 20000 in
theorem jnt_X0_takeBack_28 {E : Ev} {l : Launch} {n : Nat} {R : MR} {o1 : Nat} (hn : 336 ≤ n) (hG : GRx R) (ho1 : isPlay o1) {I0 : MI} {L0 : ML} {Q : Int32 → MI → ML → Prop} {I : MI} {L : ML} {s0 : Int32} (h : jn_X0_takeBack_28 o1 I L s0 Q) : X E l rm_X0_takeBack yX0_takeBack cX0_takeBack 3 (some .boolean) noX (ZM E rm_X0_takeBack (Qi n R (P11 I0 L0 Q))) 28 [(0, .ref 46), (1, .ref o1)] [.int s0, .ref 46] n I L R 0 0 := by
  unfold jn_X0_takeBack_28 at h
  refine x_puti dX0_takeBack_28 fk_RX0_17 fw_0_1 (vp_nar_int _) rfl (kl rfl hn) sh_46 (fun I3 eI3 => ?_)
  have h := h I3 eI3
  refine x_aload_n dX0_takeBack_31 rfl ?_
  refine x_dup dX0_takeBack_32 rfl ?_
  refine x_geti dX0_takeBack_33 fk_RX0_21 (kl rfl hn) sh_46 ?_
  refine x_iconst (v := 1) dX0_takeBack_36 ki_1 ?_
  refine x_isub dX0_takeBack_37 ?_
  refine x_puti dX0_takeBack_38 fk_RX0_21 fw_0_2 (vp_nar_int _) rfl (kl rfl hn) sh_46 (fun I4 eI4 => ?_)
  have h := h I4 eI4
  refine x_aload_n dX0_takeBack_41 rfl ?_
  refine x_getr (j := 47) dX0_takeBack_42 fk_RX0_11 (kl rfl hn) sh_46 (rt_46_0 hG) ?_
  refine x_aload_n dX0_takeBack_45 rfl ?_
  refine x_geti dX0_takeBack_46 fk_RX0_17 (kl rfl hn) sh_46 ?_
  obtain ⟨b5, h⟩ := h
  refine x_aaload (r := 48 + 22 * ix (I4 46 1)) dX0_takeBack_49 (kl rfl hn) sh_47 b5 (kp_R hG b5) ?_
  refine x_astore_n (ls' := [(2, .ref (48 + 22 * ix (I4 46 1))), (0, .ref 46), (1, .ref o1)]) dX0_takeBack_50 (Nat.le_of_ble_eq_true rfl) rfl ?_
  refine x_aload_n dX0_takeBack_51 rfl ?_
  refine x_ifnull dX0_takeBack_52 ?_
  refine x_aload_n dX0_takeBack_55 rfl ?_
  refine x_aload_n dX0_takeBack_56 rfl ?_
  refine x_cVv11 [.ref (48 + 22 * ix (I4 46 1))] (mt_X2_copyFrom hn hG ho1 (kp_P b5) h) dX0_takeBack_57 lk_RX0_25 (Py_k ho1 hn 0 rfl) (Py_s0 ho1) rfl rfl (Nat.le_of_ble_eq_true rfl) (Rf_of rfl) (fun I6 L7 h => ?_)
  refine x_iconst (v := 1) dX0_takeBack_60 ki_1 ?_
  exact x_zreturn dX0_takeBack_61 rfl ⟨_, rfl, rfl, rfl, h⟩
def wp_X0_takeBack (o1 : Nat) (I : MI) (L : ML) (Q : Int32 → MI → ML → Prop) : Prop :=
    ((¬ (I 46 2) = 0 → (((I 46 1) ≤ 0 → (jn_X0_takeBack_28 o1 I L 11 Q)) ∧ (¬ (I 46 1) ≤ 0 → (jn_X0_takeBack_28 o1 I L ((I 46 1) - 1) Q)))) ∧ ((I 46 2) = 0 → Q 0 I L))
set_option maxRecDepth 20000 in
theorem mt_X0_takeBack {E : Ev} {l : Launch} {n : Nat} {R : MR} {o1 : Nat} (hn : 336 ≤ n) (hG : GRx R) (ho1 : isPlay o1) {I : MI} {L : ML} {Q : Int32 → MI → ML → Prop} (h : wp_X0_takeBack o1 I L Q) : MX E l rm_X0_takeBack yX0_takeBack cX0_takeBack 3 (some .boolean) [.ref 46, .ref o1] n I L R (Qi n R (P11 I L Q)) := by
  refine MX_of (ls := [(0, .ref 46), (1, .ref o1)]) (by decide) (Nat.le_of_ble_eq_true rfl) rfl ?_
  unfold wp_X0_takeBack at h
  refine x_aload_n dX0_takeBack_0 rfl ?_
  refine x_geti dX0_takeBack_1 fk_RX0_21 (kl rfl hn) sh_46 ?_
  refine x_if_ne dX0_takeBack_4 (tgt := 9) rfl ⟨fun c1 => ?_, fun c1 => ?_⟩
  · have h := h.1 c1
    refine x_aload_n dX0_takeBack_9 rfl ?_
    refine x_aload_n dX0_takeBack_10 rfl ?_
    refine x_geti dX0_takeBack_11 fk_RX0_17 (kl rfl hn) sh_46 ?_
    refine x_if_le dX0_takeBack_14 (tgt := 26) rfl ⟨fun c2 => ?_, fun c2 => ?_⟩
    · have h := h.1 c2
      refine x_bipush (v := 11) dX0_takeBack_26 kb_11 ?_
      exact jnt_X0_takeBack_28 hn hG ho1  h
    · have h := h.2 c2
      refine x_aload_n dX0_takeBack_17 rfl ?_
      refine x_geti dX0_takeBack_18 fk_RX0_17 (kl rfl hn) sh_46 ?_
      refine x_iconst (v := 1) dX0_takeBack_21 ki_1 ?_
      refine x_isub dX0_takeBack_22 ?_
      refine x_goto dX0_takeBack_23 (tgt := 28) rfl ?_
      exact jnt_X0_takeBack_28 hn hG ho1  h
  · have h := h.2 c1
    refine x_iconst (v := 0) dX0_takeBack_7 ki_0 ?_
    exact x_zreturn dX0_takeBack_8 rfl ⟨_, rfl, rfl, rfl, h⟩
abbrev rm_X2_beginWay : Room := { frames := 1, cells := 0, slots := 0, locals := 23 }
def wp_X2_beginWay (o0 : Nat) (I : MI) (L : ML) (v1 : Int32) (v2 : Int32) (v3 : Int32) (Q : MI → ML → Prop) : Prop :=
    (wp_X5_of ((I o0 9) + v3) (I o0 10) v1 v2 (fun x1 => ((wp_X4_insertInOrder (o0 + 14) 184 I L x1 (fun I2 L3 => ((∀ I4, I4 = u2 I2 o0 10 ((I2 o0 10) + 1) → ((¬ v1 = 2 → Q I4 L3) ∧ (v1 = 2 → (∀ I6, I6 = u2 I4 o0 11 ((I4 o0 11) + 1) → Q I6 L3))))))))))
set_option maxRecDepth 20000 in
theorem mt_X2_beginWay {E : Ev} {l : Launch} {n : Nat} {R : MR} {o0 : Nat} (hn : 336 ≤ n) (hG : GRx R) (ho0 : isPlay o0) {I : MI} {L : ML} {v1 : Int32} {v2 : Int32} {v3 : Int32} {Q : MI → ML → Prop} (h : wp_X2_beginWay o0 I L v1 v2 v3 Q) : MX E l rm_X2_beginWay yX2_beginWay cX2_beginWay 4 none [.ref o0, .int v1, .int v2, .int v3] n I L R (Qv n R (V11 I L Q)) := by
  refine MX_of (ls := [(0, .ref o0), (1, .int v1), (2, .int v2), (3, .int v3)]) (by decide) (Nat.le_of_ble_eq_true rfl) rfl ?_
  unfold wp_X2_beginWay at h
  refine x_aload_n dX2_beginWay_0 rfl ?_
  refine x_getr (j := o0 + 14) dX2_beginWay_1 fk_RX2_36 (Py_k ho0 hn 0 rfl) (Py_s0 ho0) (Py_r5 hG ho0) ?_
  refine x_aload_n dX2_beginWay_4 rfl ?_
  refine x_geti dX2_beginWay_5 fk_RX2_49 (Py_k ho0 hn 0 rfl) (Py_s0 ho0) ?_
  refine x_iload_n dX2_beginWay_8 rfl ?_
  refine x_iadd dX2_beginWay_9 ?_
  refine x_aload_n dX2_beginWay_10 rfl ?_
  refine x_geti dX2_beginWay_11 fk_RX2_53 (Py_k ho0 hn 0 rfl) (Py_s0 ho0) ?_
  refine x_iload_n dX2_beginWay_14 rfl ?_
  refine x_iload_n dX2_beginWay_15 rfl ?_
  refine x_cSl00 [.int ((I o0 9) + v3), .int (I o0 10), .int v1, .int v2] (mt_X5_of hn hG h) dX2_beginWay_16 lk_RX2_109 rfl rfl (Nat.le_of_ble_eq_true rfl) (Rf_of rfl) (fun x1 h => ?_)
  refine x_cVv11 [.long x1] (mt_X4_insertInOrder hn hG (Py_ways ho0) h) dX2_beginWay_19 lk_RX2_135 (Rw_k (Py_ways ho0) hn 0 rfl) (Rw_s0 (Py_ways ho0)) rfl rfl (Nat.le_of_ble_eq_true rfl) (Rf_of rfl) (fun I2 L3 h => ?_)
  refine x_aload_n dX2_beginWay_22 rfl ?_
  refine x_dup dX2_beginWay_23 rfl ?_
  refine x_geti dX2_beginWay_24 fk_RX2_53 (Py_k ho0 hn 0 rfl) (Py_s0 ho0) ?_
  refine x_iconst (v := 1) dX2_beginWay_27 ki_1 ?_
  refine x_iadd dX2_beginWay_28 ?_
  refine x_puti dX2_beginWay_29 fk_RX2_53 fw_2_10 (vp_nar_int _) rfl (Py_k ho0 hn 0 rfl) (Py_s0 ho0) (fun I4 eI4 => ?_)
  have h := h I4 eI4
  refine x_iload_n dX2_beginWay_32 rfl ?_
  refine x_iconst (v := 2) dX2_beginWay_33 ki_2 ?_
  refine x_icmp_ne dX2_beginWay_34 (tgt := 47) rfl ⟨fun c5 => ?_, fun c5 => ?_⟩
  · have h := h.1 c5
    exact x_return dX2_beginWay_47 ⟨rfl, rfl, rfl, h⟩
  · have h := h.2 c5
    refine x_aload_n dX2_beginWay_37 rfl ?_
    refine x_dup dX2_beginWay_38 rfl ?_
    refine x_geti dX2_beginWay_39 fk_RX2_56 (Py_k ho0 hn 0 rfl) (Py_s0 ho0) ?_
    refine x_iconst (v := 1) dX2_beginWay_42 ki_1 ?_
    refine x_iadd dX2_beginWay_43 ?_
    refine x_puti dX2_beginWay_44 fk_RX2_56 fw_2_11 (vp_nar_int _) rfl (Py_k ho0 hn 0 rfl) (Py_s0 ho0) (fun I6 eI6 => ?_)
    have h := h I6 eI6
    exact x_return dX2_beginWay_47 ⟨rfl, rfl, rfl, h⟩
abbrev rm_X2_callToAnswer : Room := { frames := 1, cells := 0, slots := 0, locals := 25 }
def jn_X2_callToAnswer_93 (v2 : Int32) (v3 : Int32) (kj32 : Int32 → Int32 → Prop) : Prop :=
    kj32 v2 (v3 + 1)
set_option maxRecDepth 20000 in
theorem jnt_X2_callToAnswer_93 {E : Ev} {l : Launch} {n : Nat} {R : MR} {o0 : Nat} (hn : 336 ≤ n) (hG : GRx R) (ho0 : isPlay o0) {Q : Int32 → Prop} {I : MI} {L : ML} {v1 : Int32} {v2 : Int32} {v3 : Int32} {kj32 : Int32 → Int32 → Prop}
    (hJ32 : ∀ (v2 : Int32) (v3 : Int32), kj32 v2 v3 → X E l rm_X2_callToAnswer yX2_callToAnswer cX2_callToAnswer 5 (some .int) noX (ZM E rm_X2_callToAnswer (Qi n R (P00 I L Q))) 32 [(0, .ref o0), (1, .int v1), (2, .int v2), (3, .int v3)] [] n I L R 0 0) (h : jn_X2_callToAnswer_93 v2 v3 kj32) : X E l rm_X2_callToAnswer yX2_callToAnswer cX2_callToAnswer 5 (some .int) noX (ZM E rm_X2_callToAnswer (Qi n R (P00 I L Q))) 93 [(0, .ref o0), (1, .int v1), (2, .int v2), (3, .int v3)] [] n I L R 0 0 := by
  unfold jn_X2_callToAnswer_93 at h
  refine x_iinc (v := v3 + 1) (ls' := [(3, .int (v3 + 1)), (0, .ref o0), (1, .int v1), (2, .int v2)]) dX2_callToAnswer_93 rfl (congrArg (_ + ·) ki_1) (Nat.le_of_ble_eq_true rfl) rfl ?_
  refine x_goto dX2_callToAnswer_96 (tgt := 32) rfl ?_
  refine x_ls (ls' := [(0, .ref o0), (1, .int v1), (2, .int v2), (3, .int (v3 + 1))]) [1, 2, 3, 0] rfl ?_
  exact hJ32 v2 (v3 + 1) h
def lp_X2_callToAnswer_32 (o0 : Nat) (I : MI) (L : ML) (v1 : Int32) (Q : Int32 → Prop) : Nat → Int32 → Int32 → Prop
  | 0, _, _ => False
  | n + 1, v2, v3 =>
    (((I (o0 + 18) 1) ≤ v3 → Q v2) ∧ (¬ (I (o0 + 18) 1) ≤ v3 → (wp_X4_at (o0 + 18) 184 L v3 (fun x5 => ((wp_X5_place x5 (fun x6 => ((wp_X9_partOf x6 (fun x7 => (((¬ x7 = v1 → (jn_X2_callToAnswer_93 v2 v3 (fun x9 x10 => (lp_X2_callToAnswer_32 o0 I L v1 Q n x9 x10)))) ∧ (x7 = v1 → (vp_in x6 16 ∧ (wp_X4_at (o0 + 18) 184 L v2 (fun x12 => ((wp_X5_place x12 (fun x13 => ((vp_in x13 16 ∧ (((I (o0 + 11) (ix x6)) ≤ (I (o0 + 11) (ix x13)) → (jn_X2_callToAnswer_93 v2 v3 (fun x16 x17 => (lp_X2_callToAnswer_32 o0 I L v1 Q n x16 x17)))) ∧ (¬ (I (o0 + 11) (ix x6)) ≤ (I (o0 + 11) (ix x13)) → (jn_X2_callToAnswer_93 v3 v3 (fun x18 x19 => (lp_X2_callToAnswer_32 o0 I L v1 Q n x18 x19))))))))))))))))))))))))))
set_option maxRecDepth 20000 in
theorem lpt_X2_callToAnswer_32 {E : Ev} {l : Launch} {n : Nat} {R : MR} {o0 : Nat} (hn : 336 ≤ n) (hG : GRx R) (ho0 : isPlay o0) {Q : Int32 → Prop} {v1 : Int32} {I : MI} {L : ML} : ∀ (N : Nat) (v2 : Int32) (v3 : Int32), lp_X2_callToAnswer_32 o0 I L v1 Q N v2 v3 → X E l rm_X2_callToAnswer yX2_callToAnswer cX2_callToAnswer 5 (some .int) noX (ZM E rm_X2_callToAnswer (Qi n R (P00 I L Q))) 32 [(0, .ref o0), (1, .int v1), (2, .int v2), (3, .int v3)] [] n I L R 0 0 := by
  intro N
  induction N with
  | zero => intro v2 v3 h; exact False.elim h
  | succ N ih =>
    intro v2 v3 h
    unfold lp_X2_callToAnswer_32 at h
    refine x_iload_n dX2_callToAnswer_32 rfl ?_
    refine x_aload_n dX2_callToAnswer_33 rfl ?_
    refine x_getr (j := o0 + 18) dX2_callToAnswer_34 fk_RX2_43 (Py_k ho0 hn 0 rfl) (Py_s0 ho0) (Py_r7 hG ho0) ?_
    refine x_geti dX2_callToAnswer_37 fk_RX2_86 (Rw_k (Py_calls ho0) hn 0 rfl) (Rw_s0 (Py_calls ho0)) ?_
    refine x_icmp_ge dX2_callToAnswer_40 (tgt := 99) rfl ⟨fun c4 => ?_, fun c4 => ?_⟩
    · have h := h.1 c4
      refine x_iload_n dX2_callToAnswer_99 rfl ?_
      exact x_ireturn dX2_callToAnswer_100 ⟨_, rfl, rfl, rfl, rfl, rfl, h⟩
    · have h := h.2 c4
      refine x_aload_n dX2_callToAnswer_43 rfl ?_
      refine x_getr (j := o0 + 18) dX2_callToAnswer_44 fk_RX2_43 (Py_k ho0 hn 0 rfl) (Py_s0 ho0) (Py_r7 hG ho0) ?_
      refine x_iload_n dX2_callToAnswer_47 rfl ?_
      refine x_cVl00 [.int v3] (mt_X4_at hn hG (Py_calls ho0) h) dX2_callToAnswer_48 lk_RX2_142 (Rw_k (Py_calls ho0) hn 0 rfl) (Rw_s0 (Py_calls ho0)) rfl rfl (Nat.le_of_ble_eq_true rfl) (Rf_of rfl) (fun x5 h => ?_)
      refine x_cSi00 [.long x5] (mt_X5_place hn hG h) dX2_callToAnswer_51 lk_RX2_161 rfl rfl (Nat.le_of_ble_eq_true rfl) (Rf_of rfl) (fun x6 h => ?_)
      refine x_istore (ls' := [(4, .int x6), (0, .ref o0), (1, .int v1), (2, .int v2), (3, .int v3)]) dX2_callToAnswer_54 (Nat.le_of_ble_eq_true rfl) rfl ?_
      refine x_iload dX2_callToAnswer_56 rfl ?_
      refine x_cNi00 [.int x6] (mt_X9_partOf hn hG h) dX2_callToAnswer_58 lk_RX2_105 rfl rfl (Nat.le_of_ble_eq_true rfl) (Rf_of rfl) (fun x7 h => ?_)
      refine x_iload_n dX2_callToAnswer_61 rfl ?_
      refine x_icmp_ne dX2_callToAnswer_62 (tgt := 93) rfl ⟨fun c8 => ?_, fun c8 => ?_⟩
      · have h := h.1 c8
        refine x_ls (ls' := [(0, .ref o0), (1, .int v1), (2, .int v2), (3, .int v3)]) [1, 2, 3, 4] rfl ?_
        refine jnt_X2_callToAnswer_93 hn hG ho0 (fun x9 x10 h => ?_) h
        exact ih x9 x10 h
      · have h := h.2 c8
        refine x_aload_n dX2_callToAnswer_65 rfl ?_
        refine x_getr (j := o0 + 11) dX2_callToAnswer_66 fk_RX2_22 (Py_k ho0 hn 0 rfl) (Py_s0 ho0) (Py_r2 hG ho0) ?_
        refine x_iload dX2_callToAnswer_69 rfl ?_
        obtain ⟨b11, h⟩ := h
        refine x_iaload dX2_callToAnswer_71 (Py_k ho0 hn 11 rfl) (Py_s11 ho0) b11 ?_
        refine x_aload_n dX2_callToAnswer_72 rfl ?_
        refine x_getr (j := o0 + 11) dX2_callToAnswer_73 fk_RX2_22 (Py_k ho0 hn 0 rfl) (Py_s0 ho0) (Py_r2 hG ho0) ?_
        refine x_aload_n dX2_callToAnswer_76 rfl ?_
        refine x_getr (j := o0 + 18) dX2_callToAnswer_77 fk_RX2_43 (Py_k ho0 hn 0 rfl) (Py_s0 ho0) (Py_r7 hG ho0) ?_
        refine x_iload_n dX2_callToAnswer_80 rfl ?_
        refine x_cVl00 [.int v2] (mt_X4_at hn hG (Py_calls ho0) h) dX2_callToAnswer_81 lk_RX2_142 (Rw_k (Py_calls ho0) hn 0 rfl) (Rw_s0 (Py_calls ho0)) rfl rfl (Nat.le_of_ble_eq_true rfl) (Rf_of rfl) (fun x12 h => ?_)
        refine x_cSi00 [.long x12] (mt_X5_place hn hG h) dX2_callToAnswer_84 lk_RX2_161 rfl rfl (Nat.le_of_ble_eq_true rfl) (Rf_of rfl) (fun x13 h => ?_)
        obtain ⟨b14, h⟩ := h
        refine x_iaload dX2_callToAnswer_87 (Py_k ho0 hn 11 rfl) (Py_s11 ho0) b14 ?_
        refine x_icmp_le dX2_callToAnswer_88 (tgt := 93) rfl ⟨fun c15 => ?_, fun c15 => ?_⟩
        · have h := h.1 c15
          refine x_ls (ls' := [(0, .ref o0), (1, .int v1), (2, .int v2), (3, .int v3)]) [1, 2, 3, 4] rfl ?_
          refine jnt_X2_callToAnswer_93 hn hG ho0 (fun x16 x17 h => ?_) h
          exact ih x16 x17 h
        · have h := h.2 c15
          refine x_iload_n dX2_callToAnswer_91 rfl ?_
          refine x_istore_n (ls' := [(2, .int v3), (4, .int x6), (0, .ref o0), (1, .int v1), (3, .int v3)]) dX2_callToAnswer_92 (Nat.le_of_ble_eq_true rfl) rfl ?_
          refine x_ls (ls' := [(0, .ref o0), (1, .int v1), (2, .int v3), (3, .int v3)]) [2, 3, 0, 4] rfl ?_
          refine jnt_X2_callToAnswer_93 hn hG ho0 (fun x18 x19 h => ?_) h
          exact ih x18 x19 h
def wp_X2_callToAnswer (o0 : Nat) (I : MI) (L : ML) (v1 : Int32) (Q : Int32 → Prop) : Prop :=
    (wp_X4_findAt (o0 + 18) 184 I L 3 v1 0 (fun x1 => (((x1 = (-1) → Q x1) ∧ (¬ x1 = (-1) → ((¬ (I (o0 + 1) 4) = 0 → (∃ N20, lp_X2_callToAnswer_32 o0 I L v1 Q N20 x1 (x1 + 1))) ∧ ((I (o0 + 1) 4) = 0 → Q x1)))))))
set_option maxRecDepth 20000 in
theorem mt_X2_callToAnswer {E : Ev} {l : Launch} {n : Nat} {R : MR} {o0 : Nat} (hn : 336 ≤ n) (hG : GRx R) (ho0 : isPlay o0) {I : MI} {L : ML} {v1 : Int32} {Q : Int32 → Prop} (h : wp_X2_callToAnswer o0 I L v1 Q) : MX E l rm_X2_callToAnswer yX2_callToAnswer cX2_callToAnswer 5 (some .int) [.ref o0, .int v1] n I L R (Qi n R (P00 I L Q)) := by
  refine MX_of (ls := [(0, .ref o0), (1, .int v1)]) (by decide) (Nat.le_of_ble_eq_true rfl) rfl ?_
  unfold wp_X2_callToAnswer at h
  refine x_aload_n dX2_callToAnswer_0 rfl ?_
  refine x_getr (j := o0 + 18) dX2_callToAnswer_1 fk_RX2_43 (Py_k ho0 hn 0 rfl) (Py_s0 ho0) (Py_r7 hG ho0) ?_
  refine x_iconst (v := 3) dX2_callToAnswer_4 ki_3 ?_
  refine x_iload_n dX2_callToAnswer_5 rfl ?_
  refine x_iconst (v := 0) dX2_callToAnswer_6 ki_0 ?_
  refine x_cVi00 [.int 3, .int v1, .int 0] (mt_X4_findAt hn hG (Py_calls ho0) h) dX2_callToAnswer_7 lk_RX2_138 (Rw_k (Py_calls ho0) hn 0 rfl) (Rw_s0 (Py_calls ho0)) rfl rfl (Nat.le_of_ble_eq_true rfl) (Rf_of rfl) (fun x1 h => ?_)
  refine x_istore_n (ls' := [(2, .int x1), (0, .ref o0), (1, .int v1)]) dX2_callToAnswer_10 (Nat.le_of_ble_eq_true rfl) rfl ?_
  refine x_iload_n dX2_callToAnswer_11 rfl ?_
  refine x_iconst (v := (-1)) dX2_callToAnswer_12 ki_m1 ?_
  refine x_icmp_eq dX2_callToAnswer_13 (tgt := 26) rfl ⟨fun c2 => ?_, fun c2 => ?_⟩
  · have h := h.1 c2
    refine x_iload_n dX2_callToAnswer_26 rfl ?_
    exact x_ireturn dX2_callToAnswer_27 ⟨_, rfl, rfl, rfl, rfl, rfl, h⟩
  · have h := h.2 c2
    refine x_aload_n dX2_callToAnswer_16 rfl ?_
    refine x_getr (j := o0 + 1) dX2_callToAnswer_17 fk_RX2_12 (Py_k ho0 hn 0 rfl) (Py_s0 ho0) (Py_r0 hG ho0) ?_
    refine x_geti dX2_callToAnswer_20 fk_RX2_164 (Pn_k (Py_plan ho0) hn 0 rfl) (Pn_s0 (Py_plan ho0)) ?_
    refine x_if_ne dX2_callToAnswer_23 (tgt := 28) rfl ⟨fun c3 => ?_, fun c3 => ?_⟩
    · have h := h.1 c3
      refine x_iload_n dX2_callToAnswer_28 rfl ?_
      refine x_iconst (v := 1) dX2_callToAnswer_29 ki_1 ?_
      refine x_iadd dX2_callToAnswer_30 ?_
      refine x_istore_n (ls' := [(3, .int (x1 + 1)), (2, .int x1), (0, .ref o0), (1, .int v1)]) dX2_callToAnswer_31 (Nat.le_of_ble_eq_true rfl) rfl ?_
      refine x_ls (ls' := [(0, .ref o0), (1, .int v1), (2, .int x1), (3, .int (x1 + 1))]) [2, 3, 1, 0] rfl ?_
      obtain ⟨N20, h⟩ := h
      exact lpt_X2_callToAnswer_32 hn hG ho0  N20 x1 (x1 + 1) h
    · have h := h.2 c3
      refine x_iload_n dX2_callToAnswer_26 rfl ?_
      exact x_ireturn dX2_callToAnswer_27 ⟨_, rfl, rfl, rfl, rfl, rfl, h⟩
abbrev rm_X2_answerCalls : Room := { frames := 2, cells := 0, slots := 0, locals := 69 }
def lp_X2_answerCalls_6 (o0 : Nat) (v2 : Int32) (Q : MI → ML → Prop) : Nat → Int32 → MI → ML → Prop
  | 0, _, _, _ => False
  | n + 1, v3, I, L =>
    ((184 ≤ v3 → Q I L) ∧ (¬ 184 ≤ v3 → (vp_in v2 4 ∧ (((I (o0 + 13) (ix v2)) ≤ 0 → Q I L) ∧ (¬ (I (o0 + 13) (ix v2)) ≤ 0 → (wp_X2_callToAnswer o0 I L v2 (fun x4 => (((¬ x4 = (-1) → (wp_X4_at (o0 + 18) 184 L x4 (fun x6 => ((wp_X5_place x6 (fun x7 => ((wp_X4_removeAt (o0 + 18) 184 I L x4 (fun I8 L9 => ((vp_in v2 4 ∧ (vp_in v2 4 ∧ (∀ I12, I12 = u2 I8 (o0 + 13) (ix v2) ((I8 (o0 + 13) (ix v2)) - 1) → (∀ I13, I13 = u2 I12 o0 18 ((I12 o0 18) + 1) → (wp_X9_baseOf x7 (fun x14 => ((vp_in x14 4 ∧ (wp_X2_beginWay o0 I13 L9 3 x7 (I13 (o0 + 6) (ix x14)) (fun I16 L17 => ((lp_X2_answerCalls_6 o0 v2 Q n (v3 + 1) I16 L17)))))))))))))))))))))) ∧ (x4 = (-1) → Q I L))))))))))
set_option maxRecDepth 20000 in
theorem lpt_X2_answerCalls_6 {E : Ev} {l : Launch} {n : Nat} {R : MR} {o0 : Nat} (hn : 336 ≤ n) (hG : GRx R) (ho0 : isPlay o0) {I0 : MI} {L0 : ML} {Q : MI → ML → Prop} {v2 : Int32} : ∀ (N : Nat) (v3 : Int32) (I : MI) (L : ML), lp_X2_answerCalls_6 o0 v2 Q N v3 I L → X E l rm_X2_answerCalls yX2_answerCalls cX2_answerCalls 6 none noX (ZM E rm_X2_answerCalls (Qv n R (V11 I0 L0 Q))) 6 [(0, .ref o0), (2, .int v2), (3, .int v3)] [] n I L R 0 0 := by
  intro N
  induction N with
  | zero => intro v3 I L h; exact False.elim h
  | succ N ih =>
    intro v3 I L h
    unfold lp_X2_answerCalls_6 at h
    refine x_iload_n dX2_answerCalls_6 rfl ?_
    refine x_sipush (v := 184) dX2_answerCalls_7 ks_184 ?_
    refine x_icmp_ge dX2_answerCalls_10 (tgt := 105) rfl ⟨fun c1 => ?_, fun c1 => ?_⟩
    · have h := h.1 c1
      exact x_return dX2_answerCalls_105 ⟨rfl, rfl, rfl, h⟩
    · have h := h.2 c1
      refine x_aload_n dX2_answerCalls_13 rfl ?_
      refine x_getr (j := o0 + 13) dX2_answerCalls_14 fk_RX2_28 (Py_k ho0 hn 0 rfl) (Py_s0 ho0) (Py_r4 hG ho0) ?_
      refine x_iload_n dX2_answerCalls_17 rfl ?_
      obtain ⟨b2, h⟩ := h
      refine x_iaload dX2_answerCalls_18 (Py_k ho0 hn 13 rfl) (Py_s13 ho0) b2 ?_
      refine x_if_le dX2_answerCalls_19 (tgt := 105) rfl ⟨fun c3 => ?_, fun c3 => ?_⟩
      · have h := h.1 c3
        exact x_return dX2_answerCalls_105 ⟨rfl, rfl, rfl, h⟩
      · have h := h.2 c3
        refine x_aload_n dX2_answerCalls_22 rfl ?_
        refine x_iload_n dX2_answerCalls_23 rfl ?_
        refine x_cVi00 [.int v2] (mt_X2_callToAnswer hn hG ho0 h) dX2_answerCalls_24 lk_RX2_158 (Py_k ho0 hn 0 rfl) (Py_s0 ho0) rfl rfl (Nat.le_of_ble_eq_true rfl) (Rf_of rfl) (fun x4 h => ?_)
        refine x_istore (ls' := [(4, .int x4), (0, .ref o0), (2, .int v2), (3, .int v3)]) dX2_answerCalls_27 (Nat.le_of_ble_eq_true rfl) rfl ?_
        refine x_iload dX2_answerCalls_29 rfl ?_
        refine x_iconst (v := (-1)) dX2_answerCalls_31 ki_m1 ?_
        refine x_icmp_ne dX2_answerCalls_32 (tgt := 36) rfl ⟨fun c5 => ?_, fun c5 => ?_⟩
        · have h := h.1 c5
          refine x_aload_n dX2_answerCalls_36 rfl ?_
          refine x_getr (j := o0 + 18) dX2_answerCalls_37 fk_RX2_43 (Py_k ho0 hn 0 rfl) (Py_s0 ho0) (Py_r7 hG ho0) ?_
          refine x_iload dX2_answerCalls_40 rfl ?_
          refine x_cVl00 [.int x4] (mt_X4_at hn hG (Py_calls ho0) h) dX2_answerCalls_42 lk_RX2_142 (Rw_k (Py_calls ho0) hn 0 rfl) (Rw_s0 (Py_calls ho0)) rfl rfl (Nat.le_of_ble_eq_true rfl) (Rf_of rfl) (fun x6 h => ?_)
          refine x_cSi00 [.long x6] (mt_X5_place hn hG h) dX2_answerCalls_45 lk_RX2_161 rfl rfl (Nat.le_of_ble_eq_true rfl) (Rf_of rfl) (fun x7 h => ?_)
          refine x_istore (ls' := [(5, .int x7), (4, .int x4), (0, .ref o0), (2, .int v2), (3, .int v3)]) dX2_answerCalls_48 (Nat.le_of_ble_eq_true rfl) rfl ?_
          refine x_aload_n dX2_answerCalls_50 rfl ?_
          refine x_getr (j := o0 + 18) dX2_answerCalls_51 fk_RX2_43 (Py_k ho0 hn 0 rfl) (Py_s0 ho0) (Py_r7 hG ho0) ?_
          refine x_iload dX2_answerCalls_54 rfl ?_
          refine x_cVv11 [.int x4] (mt_X4_removeAt hn hG (Py_calls ho0) h) dX2_answerCalls_56 lk_RX2_149 (Rw_k (Py_calls ho0) hn 0 rfl) (Rw_s0 (Py_calls ho0)) rfl rfl (Nat.le_of_ble_eq_true rfl) (Rf_of rfl) (fun I8 L9 h => ?_)
          refine x_aload_n dX2_answerCalls_59 rfl ?_
          refine x_getr (j := o0 + 13) dX2_answerCalls_60 fk_RX2_28 (Py_k ho0 hn 0 rfl) (Py_s0 ho0) (Py_r4 hG ho0) ?_
          refine x_iload_n dX2_answerCalls_63 rfl ?_
          refine x_dup2 dX2_answerCalls_64 rfl rfl ?_
          obtain ⟨b10, h⟩ := h
          refine x_iaload dX2_answerCalls_65 (Py_k ho0 hn 13 rfl) (Py_s13 ho0) b10 ?_
          refine x_iconst (v := 1) dX2_answerCalls_66 ki_1 ?_
          refine x_isub dX2_answerCalls_67 ?_
          obtain ⟨b11, h⟩ := h
          refine x_iastore dX2_answerCalls_68 (Py_k ho0 hn 13 rfl) (Py_s13 ho0) b11 (fun I12 eI12 => ?_)
          have h := h I12 eI12
          refine x_aload_n dX2_answerCalls_69 rfl ?_
          refine x_dup dX2_answerCalls_70 rfl ?_
          refine x_geti dX2_answerCalls_71 fk_RX2_77 (Py_k ho0 hn 0 rfl) (Py_s0 ho0) ?_
          refine x_iconst (v := 1) dX2_answerCalls_74 ki_1 ?_
          refine x_iadd dX2_answerCalls_75 ?_
          refine x_puti dX2_answerCalls_76 fk_RX2_77 fw_2_18 (vp_nar_int _) rfl (Py_k ho0 hn 0 rfl) (Py_s0 ho0) (fun I13 eI13 => ?_)
          have h := h I13 eI13
          refine x_aload_n dX2_answerCalls_79 rfl ?_
          refine x_iconst (v := 3) dX2_answerCalls_80 ki_3 ?_
          refine x_iload dX2_answerCalls_81 rfl ?_
          refine x_aload_n dX2_answerCalls_83 rfl ?_
          refine x_getr (j := o0 + 1) dX2_answerCalls_84 fk_RX2_12 (Py_k ho0 hn 0 rfl) (Py_s0 ho0) (Py_r0 hG ho0) ?_
          refine x_getr (j := o0 + 6) dX2_answerCalls_87 fk_RX2_126 (Pn_k (Py_plan ho0) hn 0 rfl) (Pn_s0 (Py_plan ho0)) (Pn_r9 hG (Py_plan ho0)) ?_
          refine x_iload dX2_answerCalls_90 rfl ?_
          refine x_cNi00 [.int x7] (mt_X9_baseOf hn hG h) dX2_answerCalls_92 lk_RX2_129 rfl rfl (Nat.le_of_ble_eq_true rfl) (Rf_of rfl) (fun x14 h => ?_)
          obtain ⟨b15, h⟩ := h
          refine x_iaload dX2_answerCalls_95 (Pn_k (Py_plan ho0) hn 5 rfl) (Pn_s5 (Py_plan ho0)) b15 ?_
          refine x_cVv11 [.int 3, .int x7, .int (I13 (o0 + 6) (ix x14))] (mt_X2_beginWay hn hG ho0 h) dX2_answerCalls_96 lk_RX2_122 (Py_k ho0 hn 0 rfl) (Py_s0 ho0) rfl rfl (Nat.le_of_ble_eq_true rfl) (Rf_of rfl) (fun I16 L17 h => ?_)
          refine x_iinc (v := v3 + 1) (ls' := [(3, .int (v3 + 1)), (5, .int x7), (4, .int x4), (0, .ref o0), (2, .int v2)]) dX2_answerCalls_99 rfl (congrArg (_ + ·) ki_1) (Nat.le_of_ble_eq_true rfl) rfl ?_
          refine x_goto dX2_answerCalls_102 (tgt := 6) rfl ?_
          refine x_ls (ls' := [(0, .ref o0), (2, .int v2), (3, .int (v3 + 1))]) [3, 4, 0] rfl ?_
          exact ih (v3 + 1) I16 L17 h
        · have h := h.2 c5
          exact x_return dX2_answerCalls_35 ⟨rfl, rfl, rfl, h⟩
def wp_X2_answerCalls (o0 : Nat) (I : MI) (L : ML) (v1 : Int32) (Q : MI → ML → Prop) : Prop :=
    (∃ N18, lp_X2_answerCalls_6 o0 (v1 &&& 3) Q N18 0 I L)
set_option maxRecDepth 20000 in
theorem mt_X2_answerCalls {E : Ev} {l : Launch} {n : Nat} {R : MR} {o0 : Nat} (hn : 336 ≤ n) (hG : GRx R) (ho0 : isPlay o0) {I : MI} {L : ML} {v1 : Int32} {Q : MI → ML → Prop} (h : wp_X2_answerCalls o0 I L v1 Q) : MX E l rm_X2_answerCalls yX2_answerCalls cX2_answerCalls 6 none [.ref o0, .int v1] n I L R (Qv n R (V11 I L Q)) := by
  refine MX_of (ls := [(0, .ref o0), (1, .int v1)]) (by decide) (Nat.le_of_ble_eq_true rfl) rfl ?_
  unfold wp_X2_answerCalls at h
  refine x_iload_n dX2_answerCalls_0 rfl ?_
  refine x_iconst (v := 3) dX2_answerCalls_1 ki_3 ?_
  refine x_iand dX2_answerCalls_2 ?_
  refine x_istore_n (ls' := [(2, .int (v1 &&& 3)), (0, .ref o0), (1, .int v1)]) dX2_answerCalls_3 (Nat.le_of_ble_eq_true rfl) rfl ?_
  refine x_iconst (v := 0) dX2_answerCalls_4 ki_0 ?_
  refine x_istore_n (ls' := [(3, .int 0), (2, .int (v1 &&& 3)), (0, .ref o0), (1, .int v1)]) dX2_answerCalls_5 (Nat.le_of_ble_eq_true rfl) rfl ?_
  refine x_ls (ls' := [(0, .ref o0), (2, .int (v1 &&& 3)), (3, .int 0)]) [2, 1, 0] rfl ?_
  obtain ⟨N18, h⟩ := h
  exact lpt_X2_answerCalls_6 hn hG ho0  N18 0 I L h
abbrev rm_X2_beginAnew : Room := { frames := 0, cells := 0, slots := 0, locals := 0 }
def lp_X2_beginAnew_2 (o0 : Nat) (kf43 : MI → Prop) : Nat → Int32 → MI → Prop
  | 0, _, _ => False
  | n + 1, v1, I =>
    ((16 ≤ v1 → kf43 I) ∧ (¬ 16 ≤ v1 → (vp_in v1 16 ∧ (vp_in v1 16 ∧ (∀ I4, I4 = u2 I (o0 + 10) (ix v1) (I (o0 + 9) (ix v1)) → (vp_in v1 16 ∧ (∀ I6, I6 = u2 I4 (o0 + 11) (ix v1) 0 → (vp_in v1 16 ∧ (∀ I8, I8 = u2 I6 (o0 + 12) (ix v1) 0 → (lp_X2_beginAnew_2 o0 kf43 n (v1 + 1) I8))))))))))
set_option maxRecDepth 20000 in
theorem lpt_X2_beginAnew_2 {E : Ev} {l : Launch} {n : Nat} {R : MR} {o0 : Nat} (hn : 336 ≤ n) (hG : GRx R) (ho0 : isPlay o0) {I0 : MI} {Q : MI → Prop} {L : ML} {kf43 : MI → Prop}
    (hK43 : ∀ (I : MI), kf43 I → X E l rm_X2_beginAnew yX2_beginAnew cX2_beginAnew 2 none noX (ZM E rm_X2_beginAnew (Qv n R (V10 I0 L Q))) 43 [(0, .ref o0)] [] n I L R 0 0) : ∀ (N : Nat) (v1 : Int32) (I : MI), lp_X2_beginAnew_2 o0 kf43 N v1 I → X E l rm_X2_beginAnew yX2_beginAnew cX2_beginAnew 2 none noX (ZM E rm_X2_beginAnew (Qv n R (V10 I0 L Q))) 2 [(0, .ref o0), (1, .int v1)] [] n I L R 0 0 := by
  intro N
  induction N with
  | zero => intro v1 I h; exact False.elim h
  | succ N ih =>
    intro v1 I h
    unfold lp_X2_beginAnew_2 at h
    refine x_iload_n dX2_beginAnew_2 rfl ?_
    refine x_bipush (v := 16) dX2_beginAnew_3 kb_16 ?_
    refine x_icmp_ge dX2_beginAnew_5 (tgt := 43) rfl ⟨fun c1 => ?_, fun c1 => ?_⟩
    · have h := h.1 c1
      refine x_ls (ls' := [(0, .ref o0)]) [0] rfl ?_
      exact hK43 I h
    · have h := h.2 c1
      refine x_aload_n dX2_beginAnew_8 rfl ?_
      refine x_getr (j := o0 + 10) dX2_beginAnew_9 fk_RX2_18 (Py_k ho0 hn 0 rfl) (Py_s0 ho0) (Py_r1 hG ho0) ?_
      refine x_iload_n dX2_beginAnew_12 rfl ?_
      refine x_aload_n dX2_beginAnew_13 rfl ?_
      refine x_getr (j := o0 + 1) dX2_beginAnew_14 fk_RX2_12 (Py_k ho0 hn 0 rfl) (Py_s0 ho0) (Py_r0 hG ho0) ?_
      refine x_getr (j := o0 + 9) dX2_beginAnew_17 fk_RX2_80 (Pn_k (Py_plan ho0) hn 0 rfl) (Pn_s0 (Py_plan ho0)) (Pn_r12 hG (Py_plan ho0)) ?_
      refine x_iload_n dX2_beginAnew_20 rfl ?_
      obtain ⟨b2, h⟩ := h
      refine x_iaload dX2_beginAnew_21 (Pn_k (Py_plan ho0) hn 8 rfl) (Pn_s8 (Py_plan ho0)) b2 ?_
      obtain ⟨b3, h⟩ := h
      refine x_iastore dX2_beginAnew_22 (Py_k ho0 hn 10 rfl) (Py_s10 ho0) b3 (fun I4 eI4 => ?_)
      have h := h I4 eI4
      refine x_aload_n dX2_beginAnew_23 rfl ?_
      refine x_getr (j := o0 + 11) dX2_beginAnew_24 fk_RX2_22 (Py_k ho0 hn 0 rfl) (Py_s0 ho0) (Py_r2 hG ho0) ?_
      refine x_iload_n dX2_beginAnew_27 rfl ?_
      refine x_iconst (v := 0) dX2_beginAnew_28 ki_0 ?_
      obtain ⟨b5, h⟩ := h
      refine x_iastore dX2_beginAnew_29 (Py_k ho0 hn 11 rfl) (Py_s11 ho0) b5 (fun I6 eI6 => ?_)
      have h := h I6 eI6
      refine x_aload_n dX2_beginAnew_30 rfl ?_
      refine x_getr (j := o0 + 12) dX2_beginAnew_31 fk_RX2_25 (Py_k ho0 hn 0 rfl) (Py_s0 ho0) (Py_r3 hG ho0) ?_
      refine x_iload_n dX2_beginAnew_34 rfl ?_
      refine x_iconst (v := 0) dX2_beginAnew_35 ki_0 ?_
      obtain ⟨b7, h⟩ := h
      refine x_iastore dX2_beginAnew_36 (Py_k ho0 hn 12 rfl) (Py_s12 ho0) b7 (fun I8 eI8 => ?_)
      have h := h I8 eI8
      refine x_iinc (v := v1 + 1) (ls' := [(1, .int (v1 + 1)), (0, .ref o0)]) dX2_beginAnew_37 rfl (congrArg (_ + ·) ki_1) (Nat.le_of_ble_eq_true rfl) rfl ?_
      refine x_goto dX2_beginAnew_40 (tgt := 2) rfl ?_
      refine x_ls (ls' := [(0, .ref o0), (1, .int (v1 + 1))]) [1, 0] rfl ?_
      exact ih (v1 + 1) I8 h
def lp_X2_beginAnew_45 (o0 : Nat) (kf71 : MI → Prop) : Nat → Int32 → MI → Prop
  | 0, _, _ => False
  | n + 1, v1, I =>
    ((4 ≤ v1 → kf71 I) ∧ (¬ 4 ≤ v1 → (vp_in v1 4 ∧ (vp_in v1 4 ∧ (∀ I14, I14 = u2 I (o0 + 13) (ix v1) (I (o0 + 5) (ix v1)) → (lp_X2_beginAnew_45 o0 kf71 n (v1 + 1) I14))))))
set_option maxRecDepth 20000 in
theorem lpt_X2_beginAnew_45 {E : Ev} {l : Launch} {n : Nat} {R : MR} {o0 : Nat} (hn : 336 ≤ n) (hG : GRx R) (ho0 : isPlay o0) {I0 : MI} {Q : MI → Prop} {L : ML} {kf71 : MI → Prop}
    (hK71 : ∀ (I : MI), kf71 I → X E l rm_X2_beginAnew yX2_beginAnew cX2_beginAnew 2 none noX (ZM E rm_X2_beginAnew (Qv n R (V10 I0 L Q))) 71 [(0, .ref o0)] [] n I L R 0 0) : ∀ (N : Nat) (v1 : Int32) (I : MI), lp_X2_beginAnew_45 o0 kf71 N v1 I → X E l rm_X2_beginAnew yX2_beginAnew cX2_beginAnew 2 none noX (ZM E rm_X2_beginAnew (Qv n R (V10 I0 L Q))) 45 [(0, .ref o0), (1, .int v1)] [] n I L R 0 0 := by
  intro N
  induction N with
  | zero => intro v1 I h; exact False.elim h
  | succ N ih =>
    intro v1 I h
    unfold lp_X2_beginAnew_45 at h
    refine x_iload_n dX2_beginAnew_45 rfl ?_
    refine x_iconst (v := 4) dX2_beginAnew_46 ki_4 ?_
    refine x_icmp_ge dX2_beginAnew_47 (tgt := 71) rfl ⟨fun c11 => ?_, fun c11 => ?_⟩
    · have h := h.1 c11
      refine x_ls (ls' := [(0, .ref o0)]) [0] rfl ?_
      exact hK71 I h
    · have h := h.2 c11
      refine x_aload_n dX2_beginAnew_50 rfl ?_
      refine x_getr (j := o0 + 13) dX2_beginAnew_51 fk_RX2_28 (Py_k ho0 hn 0 rfl) (Py_s0 ho0) (Py_r4 hG ho0) ?_
      refine x_iload_n dX2_beginAnew_54 rfl ?_
      refine x_aload_n dX2_beginAnew_55 rfl ?_
      refine x_getr (j := o0 + 1) dX2_beginAnew_56 fk_RX2_12 (Py_k ho0 hn 0 rfl) (Py_s0 ho0) (Py_r0 hG ho0) ?_
      refine x_getr (j := o0 + 5) dX2_beginAnew_59 fk_RX2_83 (Pn_k (Py_plan ho0) hn 0 rfl) (Pn_s0 (Py_plan ho0)) (Pn_r8 hG (Py_plan ho0)) ?_
      refine x_iload_n dX2_beginAnew_62 rfl ?_
      obtain ⟨b12, h⟩ := h
      refine x_iaload dX2_beginAnew_63 (Pn_k (Py_plan ho0) hn 4 rfl) (Pn_s4 (Py_plan ho0)) b12 ?_
      obtain ⟨b13, h⟩ := h
      refine x_iastore dX2_beginAnew_64 (Py_k ho0 hn 13 rfl) (Py_s13 ho0) b13 (fun I14 eI14 => ?_)
      have h := h I14 eI14
      refine x_iinc (v := v1 + 1) (ls' := [(1, .int (v1 + 1)), (0, .ref o0)]) dX2_beginAnew_65 rfl (congrArg (_ + ·) ki_1) (Nat.le_of_ble_eq_true rfl) rfl ?_
      refine x_goto dX2_beginAnew_68 (tgt := 45) rfl ?_
      refine x_ls (ls' := [(0, .ref o0), (1, .int (v1 + 1))]) [1, 0] rfl ?_
      exact ih (v1 + 1) I14 h
def wp_X2_beginAnew (o0 : Nat) (I : MI) (Q : MI → Prop) : Prop :=
    (∃ N9, lp_X2_beginAnew_2 o0 (fun I10 => (∃ N15, lp_X2_beginAnew_45 o0 (fun I16 => (∀ I17, I17 = u2 I16 (o0 + 14) 1 0 → (∀ I18, I18 = u2 I17 (o0 + 16) 1 0 → (∀ I19, I19 = u2 I18 (o0 + 18) 1 0 → (∀ I20, I20 = u2 I19 (o0 + 20) 1 0 → (∀ I21, I21 = u2 I20 o0 9 0 → (∀ I22, I22 = u2 I21 o0 10 0 → (∀ I23, I23 = u2 I22 o0 11 0 → (∀ I24, I24 = u2 I23 o0 12 0 → (∀ I25, I25 = u2 I24 o0 13 0 → (∀ I26, I26 = u2 I25 o0 14 0 → (∀ I27, I27 = u2 I26 o0 15 0 → (∀ I28, I28 = u2 I27 o0 16 0 → (∀ I29, I29 = u2 I28 o0 17 0 → (∀ I30, I30 = u2 I29 o0 18 0 → Q I30))))))))))))))) N15 0 I10)) N9 0 I)
set_option maxRecDepth 20000 in
theorem mt_X2_beginAnew {E : Ev} {l : Launch} {n : Nat} {R : MR} {o0 : Nat} (hn : 336 ≤ n) (hG : GRx R) (ho0 : isPlay o0) {I : MI} {L : ML} {Q : MI → Prop} (h : wp_X2_beginAnew o0 I Q) : MX E l rm_X2_beginAnew yX2_beginAnew cX2_beginAnew 2 none [.ref o0] n I L R (Qv n R (V10 I L Q)) := by
  refine MX_of (ls := [(0, .ref o0)]) (by decide) (Nat.le_of_ble_eq_true rfl) rfl ?_
  unfold wp_X2_beginAnew at h
  refine x_iconst (v := 0) dX2_beginAnew_0 ki_0 ?_
  refine x_istore_n (ls' := [(1, .int 0), (0, .ref o0)]) dX2_beginAnew_1 (Nat.le_of_ble_eq_true rfl) rfl ?_
  refine x_ls (ls' := [(0, .ref o0), (1, .int 0)]) [1, 0] rfl ?_
  obtain ⟨N9, h⟩ := h
  refine lpt_X2_beginAnew_2 hn hG ho0 (fun I10 h => ?_) N9 0 I h
  refine x_iconst (v := 0) dX2_beginAnew_43 ki_0 ?_
  refine x_istore_n (ls' := [(1, .int 0), (0, .ref o0)]) dX2_beginAnew_44 (Nat.le_of_ble_eq_true rfl) rfl ?_
  refine x_ls (ls' := [(0, .ref o0), (1, .int 0)]) [1, 0] rfl ?_
  obtain ⟨N15, h⟩ := h
  refine lpt_X2_beginAnew_45 hn hG ho0 (fun I16 h => ?_) N15 0 I10 h
  refine x_aload_n dX2_beginAnew_71 rfl ?_
  refine x_getr (j := o0 + 14) dX2_beginAnew_72 fk_RX2_36 (Py_k ho0 hn 0 rfl) (Py_s0 ho0) (Py_r5 hG ho0) ?_
  refine x_iconst (v := 0) dX2_beginAnew_75 ki_0 ?_
  refine x_puti dX2_beginAnew_76 fk_RX2_86 fw_4_1 (vp_nar_int _) rfl (Rw_k (Py_ways ho0) hn 0 rfl) (Rw_s0 (Py_ways ho0)) (fun I17 eI17 => ?_)
  have h := h I17 eI17
  refine x_aload_n dX2_beginAnew_79 rfl ?_
  refine x_getr (j := o0 + 16) dX2_beginAnew_80 fk_RX2_40 (Py_k ho0 hn 0 rfl) (Py_s0 ho0) (Py_r6 hG ho0) ?_
  refine x_iconst (v := 0) dX2_beginAnew_83 ki_0 ?_
  refine x_puti dX2_beginAnew_84 fk_RX2_86 fw_4_1 (vp_nar_int _) rfl (Rw_k (Py_wants ho0) hn 0 rfl) (Rw_s0 (Py_wants ho0)) (fun I18 eI18 => ?_)
  have h := h I18 eI18
  refine x_aload_n dX2_beginAnew_87 rfl ?_
  refine x_getr (j := o0 + 18) dX2_beginAnew_88 fk_RX2_43 (Py_k ho0 hn 0 rfl) (Py_s0 ho0) (Py_r7 hG ho0) ?_
  refine x_iconst (v := 0) dX2_beginAnew_91 ki_0 ?_
  refine x_puti dX2_beginAnew_92 fk_RX2_86 fw_4_1 (vp_nar_int _) rfl (Rw_k (Py_calls ho0) hn 0 rfl) (Rw_s0 (Py_calls ho0)) (fun I19 eI19 => ?_)
  have h := h I19 eI19
  refine x_aload_n dX2_beginAnew_95 rfl ?_
  refine x_getr (j := o0 + 20) dX2_beginAnew_96 fk_RX2_46 (Py_k ho0 hn 0 rfl) (Py_s0 ho0) (Py_r8 hG ho0) ?_
  refine x_iconst (v := 0) dX2_beginAnew_99 ki_0 ?_
  refine x_puti dX2_beginAnew_100 fk_RX2_86 fw_4_1 (vp_nar_int _) rfl (Rw_k (Py_waiting ho0) hn 0 rfl) (Rw_s0 (Py_waiting ho0)) (fun I20 eI20 => ?_)
  have h := h I20 eI20
  refine x_aload_n dX2_beginAnew_103 rfl ?_
  refine x_iconst (v := 0) dX2_beginAnew_104 ki_0 ?_
  refine x_puti dX2_beginAnew_105 fk_RX2_49 fw_2_9 (vp_nar_int _) rfl (Py_k ho0 hn 0 rfl) (Py_s0 ho0) (fun I21 eI21 => ?_)
  have h := h I21 eI21
  refine x_aload_n dX2_beginAnew_108 rfl ?_
  refine x_iconst (v := 0) dX2_beginAnew_109 ki_0 ?_
  refine x_puti dX2_beginAnew_110 fk_RX2_53 fw_2_10 (vp_nar_int _) rfl (Py_k ho0 hn 0 rfl) (Py_s0 ho0) (fun I22 eI22 => ?_)
  have h := h I22 eI22
  refine x_aload_n dX2_beginAnew_113 rfl ?_
  refine x_iconst (v := 0) dX2_beginAnew_114 ki_0 ?_
  refine x_puti dX2_beginAnew_115 fk_RX2_56 fw_2_11 (vp_nar_int _) rfl (Py_k ho0 hn 0 rfl) (Py_s0 ho0) (fun I23 eI23 => ?_)
  have h := h I23 eI23
  refine x_aload_n dX2_beginAnew_118 rfl ?_
  refine x_iconst (v := 0) dX2_beginAnew_119 ki_0 ?_
  refine x_puti dX2_beginAnew_120 fk_RX2_59 fw_2_12 (vp_nar_int _) rfl (Py_k ho0 hn 0 rfl) (Py_s0 ho0) (fun I24 eI24 => ?_)
  have h := h I24 eI24
  refine x_aload_n dX2_beginAnew_123 rfl ?_
  refine x_iconst (v := 0) dX2_beginAnew_124 ki_0 ?_
  refine x_puti dX2_beginAnew_125 fk_RX2_62 fw_2_13 (vp_nar_int _) rfl (Py_k ho0 hn 0 rfl) (Py_s0 ho0) (fun I25 eI25 => ?_)
  have h := h I25 eI25
  refine x_aload_n dX2_beginAnew_128 rfl ?_
  refine x_iconst (v := 0) dX2_beginAnew_129 ki_0 ?_
  refine x_puti dX2_beginAnew_130 fk_RX2_65 fw_2_14 (vp_nar_int _) rfl (Py_k ho0 hn 0 rfl) (Py_s0 ho0) (fun I26 eI26 => ?_)
  have h := h I26 eI26
  refine x_aload_n dX2_beginAnew_133 rfl ?_
  refine x_iconst (v := 0) dX2_beginAnew_134 ki_0 ?_
  refine x_puti dX2_beginAnew_135 fk_RX2_68 fw_2_15 (vp_nar_int _) rfl (Py_k ho0 hn 0 rfl) (Py_s0 ho0) (fun I27 eI27 => ?_)
  have h := h I27 eI27
  refine x_aload_n dX2_beginAnew_138 rfl ?_
  refine x_iconst (v := 0) dX2_beginAnew_139 ki_0 ?_
  refine x_puti dX2_beginAnew_140 fk_RX2_71 fw_2_16 (vp_nar_int _) rfl (Py_k ho0 hn 0 rfl) (Py_s0 ho0) (fun I28 eI28 => ?_)
  have h := h I28 eI28
  refine x_aload_n dX2_beginAnew_143 rfl ?_
  refine x_iconst (v := 0) dX2_beginAnew_144 ki_0 ?_
  refine x_puti dX2_beginAnew_145 fk_RX2_74 fw_2_17 (vp_nar_int _) rfl (Py_k ho0 hn 0 rfl) (Py_s0 ho0) (fun I29 eI29 => ?_)
  have h := h I29 eI29
  refine x_aload_n dX2_beginAnew_148 rfl ?_
  refine x_iconst (v := 0) dX2_beginAnew_149 ki_0 ?_
  refine x_puti dX2_beginAnew_150 fk_RX2_77 fw_2_18 (vp_nar_int _) rfl (Py_k ho0 hn 0 rfl) (Py_s0 ho0) (fun I30 eI30 => ?_)
  have h := h I30 eI30
  exact x_return dX2_beginAnew_153 ⟨rfl, rfl, rfl, rfl, h⟩
abbrev rm_X2_breakPiece : Room := { frames := 3, cells := 0, slots := 0, locals := 94 }
def jn_X2_breakPiece_85 (o0 : Nat) (I : MI) (L : ML) (v2 : Int32) (v3 : Int32) (v4 : Int32) (Q : Int32 → MI → ML → Prop) : Prop :=
    (vp_in v3 4 ∧ (((I (o0 + 3) (ix v3)) < 1 → (wp_X9_baseOf v2 (fun x13 => ((vp_in x13 4 ∧ (wp_X2_beginWay o0 I L 1 v2 (I (o0 + 6) (ix x13)) (fun I15 L16 => ((wp_X5_of (I15 o0 9) 0 0 v2 (fun x17 => ((wp_X4_add (o0 + 18) 184 I15 L16 x17 (fun I18 L19 => ((wp_X2_answerCalls o0 I18 L19 v3 (fun I20 L21 => (Q v4 I20 L21))))))))))))))))) ∧ (¬ (I (o0 + 3) (ix v3)) < 1 → (vp_in v3 4 ∧ (wp_X2_beginWay o0 I L 0 v2 (I (o0 + 3) (ix v3)) (fun I23 L24 => (Q v4 I23 L24)))))))
set_option maxRecDepth 20000 in
theorem jnt_X2_breakPiece_85 {E : Ev} {l : Launch} {n : Nat} {R : MR} {o0 : Nat} (hn : 336 ≤ n) (hG : GRx R) (ho0 : isPlay o0) {I0 : MI} {L0 : ML} {Q : Int32 → MI → ML → Prop} {I : MI} {L : ML} {v2 : Int32} {v3 : Int32} {v4 : Int32} (h : jn_X2_breakPiece_85 o0 I L v2 v3 v4 Q) : X E l rm_X2_breakPiece yX2_breakPiece cX2_breakPiece 5 (some .int) noX (ZM E rm_X2_breakPiece (Qi n R (P11 I0 L0 Q))) 85 [(0, .ref o0), (2, .int v2), (3, .int v3), (4, .int v4)] [] n I L R 0 0 := by
  unfold jn_X2_breakPiece_85 at h
  refine x_aload_n dX2_breakPiece_85 rfl ?_
  refine x_getr (j := o0 + 1) dX2_breakPiece_86 fk_RX2_12 (Py_k ho0 hn 0 rfl) (Py_s0 ho0) (Py_r0 hG ho0) ?_
  refine x_getr (j := o0 + 3) dX2_breakPiece_89 fk_RX2_119 (Pn_k (Py_plan ho0) hn 0 rfl) (Pn_s0 (Py_plan ho0)) (Pn_r6 hG (Py_plan ho0)) ?_
  refine x_iload_n dX2_breakPiece_92 rfl ?_
  obtain ⟨b11, h⟩ := h
  refine x_iaload dX2_breakPiece_93 (Pn_k (Py_plan ho0) hn 2 rfl) (Pn_s2 (Py_plan ho0)) b11 ?_
  refine x_iconst (v := 1) dX2_breakPiece_94 ki_1 ?_
  refine x_icmp_lt dX2_breakPiece_95 (tgt := 116) rfl ⟨fun c12 => ?_, fun c12 => ?_⟩
  · have h := h.1 c12
    refine x_aload_n dX2_breakPiece_116 rfl ?_
    refine x_iconst (v := 1) dX2_breakPiece_117 ki_1 ?_
    refine x_iload_n dX2_breakPiece_118 rfl ?_
    refine x_aload_n dX2_breakPiece_119 rfl ?_
    refine x_getr (j := o0 + 1) dX2_breakPiece_120 fk_RX2_12 (Py_k ho0 hn 0 rfl) (Py_s0 ho0) (Py_r0 hG ho0) ?_
    refine x_getr (j := o0 + 6) dX2_breakPiece_123 fk_RX2_126 (Pn_k (Py_plan ho0) hn 0 rfl) (Pn_s0 (Py_plan ho0)) (Pn_r9 hG (Py_plan ho0)) ?_
    refine x_iload_n dX2_breakPiece_126 rfl ?_
    refine x_cNi00 [.int v2] (mt_X9_baseOf hn hG h) dX2_breakPiece_127 lk_RX2_129 rfl rfl (Nat.le_of_ble_eq_true rfl) (Rf_of rfl) (fun x13 h => ?_)
    obtain ⟨b14, h⟩ := h
    refine x_iaload dX2_breakPiece_130 (Pn_k (Py_plan ho0) hn 5 rfl) (Pn_s5 (Py_plan ho0)) b14 ?_
    refine x_cVv11 [.int 1, .int v2, .int (I (o0 + 6) (ix x13))] (mt_X2_beginWay hn hG ho0 h) dX2_breakPiece_131 lk_RX2_122 (Py_k ho0 hn 0 rfl) (Py_s0 ho0) rfl rfl (Nat.le_of_ble_eq_true rfl) (Rf_of rfl) (fun I15 L16 h => ?_)
    refine x_aload_n dX2_breakPiece_134 rfl ?_
    refine x_getr (j := o0 + 18) dX2_breakPiece_135 fk_RX2_43 (Py_k ho0 hn 0 rfl) (Py_s0 ho0) (Py_r7 hG ho0) ?_
    refine x_aload_n dX2_breakPiece_138 rfl ?_
    refine x_geti dX2_breakPiece_139 fk_RX2_49 (Py_k ho0 hn 0 rfl) (Py_s0 ho0) ?_
    refine x_iconst (v := 0) dX2_breakPiece_142 ki_0 ?_
    refine x_iconst (v := 0) dX2_breakPiece_143 ki_0 ?_
    refine x_iload_n dX2_breakPiece_144 rfl ?_
    refine x_cSl00 [.int (I15 o0 9), .int 0, .int 0, .int v2] (mt_X5_of hn hG h) dX2_breakPiece_145 lk_RX2_109 rfl rfl (Nat.le_of_ble_eq_true rfl) (Rf_of rfl) (fun x17 h => ?_)
    refine x_cVv11 [.long x17] (mt_X4_add hn hG (Py_calls ho0) h) dX2_breakPiece_148 lk_RX2_115 (Rw_k (Py_calls ho0) hn 0 rfl) (Rw_s0 (Py_calls ho0)) rfl rfl (Nat.le_of_ble_eq_true rfl) (Rf_of rfl) (fun I18 L19 h => ?_)
    refine x_aload_n dX2_breakPiece_151 rfl ?_
    refine x_iload_n dX2_breakPiece_152 rfl ?_
    refine x_cVv11 [.int v3] (mt_X2_answerCalls hn hG ho0 h) dX2_breakPiece_153 lk_RX2_132 (Py_k ho0 hn 0 rfl) (Py_s0 ho0) rfl rfl (Nat.le_of_ble_eq_true rfl) (Rf_of rfl) (fun I20 L21 h => ?_)
    refine x_iload dX2_breakPiece_156 rfl ?_
    exact x_ireturn dX2_breakPiece_158 ⟨_, rfl, rfl, rfl, h⟩
  · have h := h.2 c12
    refine x_aload_n dX2_breakPiece_98 rfl ?_
    refine x_iconst (v := 0) dX2_breakPiece_99 ki_0 ?_
    refine x_iload_n dX2_breakPiece_100 rfl ?_
    refine x_aload_n dX2_breakPiece_101 rfl ?_
    refine x_getr (j := o0 + 1) dX2_breakPiece_102 fk_RX2_12 (Py_k ho0 hn 0 rfl) (Py_s0 ho0) (Py_r0 hG ho0) ?_
    refine x_getr (j := o0 + 3) dX2_breakPiece_105 fk_RX2_119 (Pn_k (Py_plan ho0) hn 0 rfl) (Pn_s0 (Py_plan ho0)) (Pn_r6 hG (Py_plan ho0)) ?_
    refine x_iload_n dX2_breakPiece_108 rfl ?_
    obtain ⟨b22, h⟩ := h
    refine x_iaload dX2_breakPiece_109 (Pn_k (Py_plan ho0) hn 2 rfl) (Pn_s2 (Py_plan ho0)) b22 ?_
    refine x_cVv11 [.int 0, .int v2, .int (I (o0 + 3) (ix v3))] (mt_X2_beginWay hn hG ho0 h) dX2_breakPiece_110 lk_RX2_122 (Py_k ho0 hn 0 rfl) (Py_s0 ho0) rfl rfl (Nat.le_of_ble_eq_true rfl) (Rf_of rfl) (fun I23 L24 h => ?_)
    refine x_goto dX2_breakPiece_113 (tgt := 156) rfl ?_
    refine x_iload dX2_breakPiece_156 rfl ?_
    exact x_ireturn dX2_breakPiece_158 ⟨_, rfl, rfl, rfl, h⟩
def wp_X2_breakPiece (o0 : Nat) (I : MI) (L : ML) (v1 : Int32) (Q : Int32 → MI → ML → Prop) : Prop :=
    (wp_X9_partOf (v1 &&& 15) (fun x1 => ((∀ I2, I2 = u2 I o0 12 ((I o0 12) + 1) → (vp_in (v1 &&& 15) 16 ∧ (((I2 (o0 + 10) (ix (v1 &&& 15))) ≤ 0 → (vp_in (v1 &&& 15) 16 ∧ (vp_in (v1 &&& 15) 16 ∧ (∀ I7, I7 = u2 I2 (o0 + 11) (ix (v1 &&& 15)) ((I2 (o0 + 11) (ix (v1 &&& 15))) + 1) → (wp_X5_of (I7 o0 9) 0 0 (v1 &&& 15) (fun x8 => ((wp_X4_add (o0 + 16) 72 I7 L x8 (fun I9 L10 => ((jn_X2_breakPiece_85 o0 I9 L10 (v1 &&& 15) x1 (I o0 10) Q))))))))))) ∧ (¬ (I2 (o0 + 10) (ix (v1 &&& 15))) ≤ 0 → (vp_in (v1 &&& 15) 16 ∧ (vp_in (v1 &&& 15) 16 ∧ (∀ I27, I27 = u2 I2 (o0 + 10) (ix (v1 &&& 15)) ((I2 (o0 + 10) (ix (v1 &&& 15))) - 1) → (∀ I28, I28 = u2 I27 o0 13 ((I27 o0 13) + 1) → (jn_X2_breakPiece_85 o0 I28 L (v1 &&& 15) x1 (I o0 10) Q))))))))))))
set_option maxRecDepth 20000 in
theorem mt_X2_breakPiece {E : Ev} {l : Launch} {n : Nat} {R : MR} {o0 : Nat} (hn : 336 ≤ n) (hG : GRx R) (ho0 : isPlay o0) {I : MI} {L : ML} {v1 : Int32} {Q : Int32 → MI → ML → Prop} (h : wp_X2_breakPiece o0 I L v1 Q) : MX E l rm_X2_breakPiece yX2_breakPiece cX2_breakPiece 5 (some .int) [.ref o0, .int v1] n I L R (Qi n R (P11 I L Q)) := by
  refine MX_of (ls := [(0, .ref o0), (1, .int v1)]) (by decide) (Nat.le_of_ble_eq_true rfl) rfl ?_
  unfold wp_X2_breakPiece at h
  refine x_iload_n dX2_breakPiece_0 rfl ?_
  refine x_bipush (v := 15) dX2_breakPiece_1 kb_15 ?_
  refine x_iand dX2_breakPiece_3 ?_
  refine x_istore_n (ls' := [(2, .int (v1 &&& 15)), (0, .ref o0), (1, .int v1)]) dX2_breakPiece_4 (Nat.le_of_ble_eq_true rfl) rfl ?_
  refine x_iload_n dX2_breakPiece_5 rfl ?_
  refine x_cNi00 [.int (v1 &&& 15)] (mt_X9_partOf hn hG h) dX2_breakPiece_6 lk_RX2_105 rfl rfl (Nat.le_of_ble_eq_true rfl) (Rf_of rfl) (fun x1 h => ?_)
  refine x_istore_n (ls' := [(3, .int x1), (2, .int (v1 &&& 15)), (0, .ref o0), (1, .int v1)]) dX2_breakPiece_9 (Nat.le_of_ble_eq_true rfl) rfl ?_
  refine x_aload_n dX2_breakPiece_10 rfl ?_
  refine x_geti dX2_breakPiece_11 fk_RX2_53 (Py_k ho0 hn 0 rfl) (Py_s0 ho0) ?_
  refine x_istore (ls' := [(4, .int (I o0 10)), (3, .int x1), (2, .int (v1 &&& 15)), (0, .ref o0), (1, .int v1)]) dX2_breakPiece_14 (Nat.le_of_ble_eq_true rfl) rfl ?_
  refine x_aload_n dX2_breakPiece_16 rfl ?_
  refine x_dup dX2_breakPiece_17 rfl ?_
  refine x_geti dX2_breakPiece_18 fk_RX2_59 (Py_k ho0 hn 0 rfl) (Py_s0 ho0) ?_
  refine x_iconst (v := 1) dX2_breakPiece_21 ki_1 ?_
  refine x_iadd dX2_breakPiece_22 ?_
  refine x_puti dX2_breakPiece_23 fk_RX2_59 fw_2_12 (vp_nar_int _) rfl (Py_k ho0 hn 0 rfl) (Py_s0 ho0) (fun I2 eI2 => ?_)
  have h := h I2 eI2
  refine x_aload_n dX2_breakPiece_26 rfl ?_
  refine x_getr (j := o0 + 10) dX2_breakPiece_27 fk_RX2_18 (Py_k ho0 hn 0 rfl) (Py_s0 ho0) (Py_r1 hG ho0) ?_
  refine x_iload_n dX2_breakPiece_30 rfl ?_
  obtain ⟨b3, h⟩ := h
  refine x_iaload dX2_breakPiece_31 (Py_k ho0 hn 10 rfl) (Py_s10 ho0) b3 ?_
  refine x_if_le dX2_breakPiece_32 (tgt := 58) rfl ⟨fun c4 => ?_, fun c4 => ?_⟩
  · have h := h.1 c4
    refine x_aload_n dX2_breakPiece_58 rfl ?_
    refine x_getr (j := o0 + 11) dX2_breakPiece_59 fk_RX2_22 (Py_k ho0 hn 0 rfl) (Py_s0 ho0) (Py_r2 hG ho0) ?_
    refine x_iload_n dX2_breakPiece_62 rfl ?_
    refine x_dup2 dX2_breakPiece_63 rfl rfl ?_
    obtain ⟨b5, h⟩ := h
    refine x_iaload dX2_breakPiece_64 (Py_k ho0 hn 11 rfl) (Py_s11 ho0) b5 ?_
    refine x_iconst (v := 1) dX2_breakPiece_65 ki_1 ?_
    refine x_iadd dX2_breakPiece_66 ?_
    obtain ⟨b6, h⟩ := h
    refine x_iastore dX2_breakPiece_67 (Py_k ho0 hn 11 rfl) (Py_s11 ho0) b6 (fun I7 eI7 => ?_)
    have h := h I7 eI7
    refine x_aload_n dX2_breakPiece_68 rfl ?_
    refine x_getr (j := o0 + 16) dX2_breakPiece_69 fk_RX2_40 (Py_k ho0 hn 0 rfl) (Py_s0 ho0) (Py_r6 hG ho0) ?_
    refine x_aload_n dX2_breakPiece_72 rfl ?_
    refine x_geti dX2_breakPiece_73 fk_RX2_49 (Py_k ho0 hn 0 rfl) (Py_s0 ho0) ?_
    refine x_iconst (v := 0) dX2_breakPiece_76 ki_0 ?_
    refine x_iconst (v := 0) dX2_breakPiece_77 ki_0 ?_
    refine x_iload_n dX2_breakPiece_78 rfl ?_
    refine x_cSl00 [.int (I7 o0 9), .int 0, .int 0, .int (v1 &&& 15)] (mt_X5_of hn hG h) dX2_breakPiece_79 lk_RX2_109 rfl rfl (Nat.le_of_ble_eq_true rfl) (Rf_of rfl) (fun x8 h => ?_)
    refine x_cVv11 [.long x8] (mt_X4_add hn hG (Py_wants ho0) h) dX2_breakPiece_82 lk_RX2_115 (Rw_k (Py_wants ho0) hn 0 rfl) (Rw_s0 (Py_wants ho0)) rfl rfl (Nat.le_of_ble_eq_true rfl) (Rf_of rfl) (fun I9 L10 h => ?_)
    refine x_ls (ls' := [(0, .ref o0), (2, .int (v1 &&& 15)), (3, .int x1), (4, .int (I o0 10))]) [3, 2, 1, 0] rfl ?_
    exact jnt_X2_breakPiece_85 hn hG ho0  h
  · have h := h.2 c4
    refine x_aload_n dX2_breakPiece_35 rfl ?_
    refine x_getr (j := o0 + 10) dX2_breakPiece_36 fk_RX2_18 (Py_k ho0 hn 0 rfl) (Py_s0 ho0) (Py_r1 hG ho0) ?_
    refine x_iload_n dX2_breakPiece_39 rfl ?_
    refine x_dup2 dX2_breakPiece_40 rfl rfl ?_
    obtain ⟨b25, h⟩ := h
    refine x_iaload dX2_breakPiece_41 (Py_k ho0 hn 10 rfl) (Py_s10 ho0) b25 ?_
    refine x_iconst (v := 1) dX2_breakPiece_42 ki_1 ?_
    refine x_isub dX2_breakPiece_43 ?_
    obtain ⟨b26, h⟩ := h
    refine x_iastore dX2_breakPiece_44 (Py_k ho0 hn 10 rfl) (Py_s10 ho0) b26 (fun I27 eI27 => ?_)
    have h := h I27 eI27
    refine x_aload_n dX2_breakPiece_45 rfl ?_
    refine x_dup dX2_breakPiece_46 rfl ?_
    refine x_geti dX2_breakPiece_47 fk_RX2_62 (Py_k ho0 hn 0 rfl) (Py_s0 ho0) ?_
    refine x_iconst (v := 1) dX2_breakPiece_50 ki_1 ?_
    refine x_iadd dX2_breakPiece_51 ?_
    refine x_puti dX2_breakPiece_52 fk_RX2_62 fw_2_13 (vp_nar_int _) rfl (Py_k ho0 hn 0 rfl) (Py_s0 ho0) (fun I28 eI28 => ?_)
    have h := h I28 eI28
    refine x_goto dX2_breakPiece_55 (tgt := 85) rfl ?_
    refine x_ls (ls' := [(0, .ref o0), (2, .int (v1 &&& 15)), (3, .int x1), (4, .int (I o0 10))]) [3, 2, 1, 0] rfl ?_
    exact jnt_X2_breakPiece_85 hn hG ho0  h
abbrev rm_X2_canBreak : Room := { frames := 0, cells := 0, slots := 0, locals := 0 }
def wp_X2_canBreak (o0 : Nat) (I : MI) (v1 : Int32) (Q : Int32 → Prop) : Prop :=
    (vp_in (v1 &&& 15) 16 ∧ (vp_in (v1 &&& 15) 16 ∧ (((I (o0 + 7) (ix (v1 &&& 15))) ≤ (I (o0 + 11) (ix (v1 &&& 15))) → Q 0) ∧ (¬ (I (o0 + 7) (ix (v1 &&& 15))) ≤ (I (o0 + 11) (ix (v1 &&& 15))) → Q 1))))
set_option maxRecDepth 20000 in
theorem mt_X2_canBreak {E : Ev} {l : Launch} {n : Nat} {R : MR} {o0 : Nat} (hn : 336 ≤ n) (hG : GRx R) (ho0 : isPlay o0) {I : MI} {L : ML} {v1 : Int32} {Q : Int32 → Prop} (h : wp_X2_canBreak o0 I v1 Q) : MX E l rm_X2_canBreak yX2_canBreak cX2_canBreak 3 (some .boolean) [.ref o0, .int v1] n I L R (Qi n R (P00 I L Q)) := by
  refine MX_of (ls := [(0, .ref o0), (1, .int v1)]) (by decide) (Nat.le_of_ble_eq_true rfl) rfl ?_
  unfold wp_X2_canBreak at h
  refine x_iload_n dX2_canBreak_0 rfl ?_
  refine x_bipush (v := 15) dX2_canBreak_1 kb_15 ?_
  refine x_iand dX2_canBreak_3 ?_
  refine x_istore_n (ls' := [(2, .int (v1 &&& 15)), (0, .ref o0), (1, .int v1)]) dX2_canBreak_4 (Nat.le_of_ble_eq_true rfl) rfl ?_
  refine x_aload_n dX2_canBreak_5 rfl ?_
  refine x_getr (j := o0 + 11) dX2_canBreak_6 fk_RX2_22 (Py_k ho0 hn 0 rfl) (Py_s0 ho0) (Py_r2 hG ho0) ?_
  refine x_iload_n dX2_canBreak_9 rfl ?_
  obtain ⟨b1, h⟩ := h
  refine x_iaload dX2_canBreak_10 (Py_k ho0 hn 11 rfl) (Py_s11 ho0) b1 ?_
  refine x_aload_n dX2_canBreak_11 rfl ?_
  refine x_getr (j := o0 + 1) dX2_canBreak_12 fk_RX2_12 (Py_k ho0 hn 0 rfl) (Py_s0 ho0) (Py_r0 hG ho0) ?_
  refine x_getr (j := o0 + 7) dX2_canBreak_15 fk_RX2_102 (Pn_k (Py_plan ho0) hn 0 rfl) (Pn_s0 (Py_plan ho0)) (Pn_r10 hG (Py_plan ho0)) ?_
  refine x_iload_n dX2_canBreak_18 rfl ?_
  obtain ⟨b2, h⟩ := h
  refine x_iaload dX2_canBreak_19 (Pn_k (Py_plan ho0) hn 6 rfl) (Pn_s6 (Py_plan ho0)) b2 ?_
  refine x_icmp_ge dX2_canBreak_20 (tgt := 27) rfl ⟨fun c3 => ?_, fun c3 => ?_⟩
  · have h := h.1 c3
    refine x_iconst (v := 0) dX2_canBreak_27 ki_0 ?_
    exact x_zreturn dX2_canBreak_28 rfl ⟨_, rfl, rfl, rfl, rfl, rfl, h⟩
  · have h := h.2 c3
    refine x_iconst (v := 1) dX2_canBreak_23 ki_1 ?_
    refine x_goto dX2_canBreak_24 (tgt := 28) rfl ?_
    exact x_zreturn dX2_canBreak_28 rfl ⟨_, rfl, rfl, rfl, rfl, rfl, h⟩
abbrev rm_X2_canGoBy : Room := { frames := 0, cells := 0, slots := 0, locals := 0 }
def wp_X2_canGoBy (o0 : Nat) (I : MI) (v1 : Int32) (v2 : Int32) (Q : Int32 → Prop) : Prop :=
    ((v1 < 1 → Q 0) ∧ (¬ v1 < 1 → ((v2 < v1 → Q 0) ∧ (¬ v2 < v1 → ((9999 < ((I o0 9) + v1) → Q 0) ∧ (¬ 9999 < ((I o0 9) + v1) → Q 1))))))
set_option maxRecDepth 20000 in
theorem mt_X2_canGoBy {E : Ev} {l : Launch} {n : Nat} {R : MR} {o0 : Nat} (hn : 336 ≤ n) (hG : GRx R) (ho0 : isPlay o0) {I : MI} {L : ML} {v1 : Int32} {v2 : Int32} {Q : Int32 → Prop} (h : wp_X2_canGoBy o0 I v1 v2 Q) : MX E l rm_X2_canGoBy yX2_canGoBy cX2_canGoBy 3 (some .boolean) [.ref o0, .int v1, .int v2] n I L R (Qi n R (P00 I L Q)) := by
  refine MX_of (ls := [(0, .ref o0), (1, .int v1), (2, .int v2)]) (by decide) (Nat.le_of_ble_eq_true rfl) rfl ?_
  unfold wp_X2_canGoBy at h
  refine x_iload_n dX2_canGoBy_0 rfl ?_
  refine x_iconst (v := 1) dX2_canGoBy_1 ki_1 ?_
  refine x_icmp_lt dX2_canGoBy_2 (tgt := 26) rfl ⟨fun c1 => ?_, fun c1 => ?_⟩
  · have h := h.1 c1
    refine x_iconst (v := 0) dX2_canGoBy_26 ki_0 ?_
    exact x_zreturn dX2_canGoBy_27 rfl ⟨_, rfl, rfl, rfl, rfl, rfl, h⟩
  · have h := h.2 c1
    refine x_iload_n dX2_canGoBy_5 rfl ?_
    refine x_iload_n dX2_canGoBy_6 rfl ?_
    refine x_icmp_gt dX2_canGoBy_7 (tgt := 26) rfl ⟨fun c2 => ?_, fun c2 => ?_⟩
    · have h := h.1 c2
      refine x_iconst (v := 0) dX2_canGoBy_26 ki_0 ?_
      exact x_zreturn dX2_canGoBy_27 rfl ⟨_, rfl, rfl, rfl, rfl, rfl, h⟩
    · have h := h.2 c2
      refine x_aload_n dX2_canGoBy_10 rfl ?_
      refine x_geti dX2_canGoBy_11 fk_RX2_49 (Py_k ho0 hn 0 rfl) (Py_s0 ho0) ?_
      refine x_iload_n dX2_canGoBy_14 rfl ?_
      refine x_iadd dX2_canGoBy_15 ?_
      refine x_sipush (v := 9999) dX2_canGoBy_16 ks_9999 ?_
      refine x_icmp_gt dX2_canGoBy_19 (tgt := 26) rfl ⟨fun c3 => ?_, fun c3 => ?_⟩
      · have h := h.1 c3
        refine x_iconst (v := 0) dX2_canGoBy_26 ki_0 ?_
        exact x_zreturn dX2_canGoBy_27 rfl ⟨_, rfl, rfl, rfl, rfl, rfl, h⟩
      · have h := h.2 c3
        refine x_iconst (v := 1) dX2_canGoBy_22 ki_1 ?_
        refine x_goto dX2_canGoBy_23 (tgt := 27) rfl ?_
        exact x_zreturn dX2_canGoBy_27 rfl ⟨_, rfl, rfl, rfl, rfl, rfl, h⟩
abbrev rm_X2_fillBenches : Room := { frames := 2, cells := 0, slots := 0, locals := 69 }
def lp_X2_fillBenches_2 (o0 : Nat) (Q : MI → ML → Prop) : Nat → Int32 → MI → ML → Prop
  | 0, _, _, _ => False
  | n + 1, v1, I, L =>
    ((3 ≤ v1 → Q I L) ∧ (¬ 3 ≤ v1 → (((I (o0 + 1) 2) ≤ (I o0 11) → Q I L) ∧ (¬ (I (o0 + 1) 2) ≤ (I o0 11) → ((¬ (I (o0 + 20) 1) = 0 → (wp_X4_at (o0 + 20) 184 L 0 (fun x4 => ((wp_X5_place x4 (fun x5 => ((wp_X9_partOf x5 (fun x6 => ((wp_X4_removeAt (o0 + 20) 184 I L 0 (fun I7 L8 => ((vp_in x6 4 ∧ (wp_X2_beginWay o0 I7 L8 2 x6 (I7 (o0 + 4) (ix x6)) (fun I10 L11 => ((lp_X2_fillBenches_2 o0 Q n (v1 + 1) I10 L11)))))))))))))))))) ∧ ((I (o0 + 20) 1) = 0 → Q I L))))))
set_option maxRecDepth 20000 in
theorem lpt_X2_fillBenches_2 {E : Ev} {l : Launch} {n : Nat} {R : MR} {o0 : Nat} (hn : 336 ≤ n) (hG : GRx R) (ho0 : isPlay o0) {I0 : MI} {L0 : ML} {Q : MI → ML → Prop} : ∀ (N : Nat) (v1 : Int32) (I : MI) (L : ML), lp_X2_fillBenches_2 o0 Q N v1 I L → X E l rm_X2_fillBenches yX2_fillBenches cX2_fillBenches 3 none noX (ZM E rm_X2_fillBenches (Qv n R (V11 I0 L0 Q))) 2 [(0, .ref o0), (1, .int v1)] [] n I L R 0 0 := by
  intro N
  induction N with
  | zero => intro v1 I L h; exact False.elim h
  | succ N ih =>
    intro v1 I L h
    unfold lp_X2_fillBenches_2 at h
    refine x_iload_n dX2_fillBenches_2 rfl ?_
    refine x_iconst (v := 3) dX2_fillBenches_3 ki_3 ?_
    refine x_icmp_ge dX2_fillBenches_4 (tgt := 76) rfl ⟨fun c1 => ?_, fun c1 => ?_⟩
    · have h := h.1 c1
      exact x_return dX2_fillBenches_76 ⟨rfl, rfl, rfl, h⟩
    · have h := h.2 c1
      refine x_aload_n dX2_fillBenches_7 rfl ?_
      refine x_geti dX2_fillBenches_8 fk_RX2_56 (Py_k ho0 hn 0 rfl) (Py_s0 ho0) ?_
      refine x_aload_n dX2_fillBenches_11 rfl ?_
      refine x_getr (j := o0 + 1) dX2_fillBenches_12 fk_RX2_12 (Py_k ho0 hn 0 rfl) (Py_s0 ho0) (Py_r0 hG ho0) ?_
      refine x_geti dX2_fillBenches_15 fk_RX2_167 (Pn_k (Py_plan ho0) hn 0 rfl) (Pn_s0 (Py_plan ho0)) ?_
      refine x_icmp_ge dX2_fillBenches_18 (tgt := 31) rfl ⟨fun c2 => ?_, fun c2 => ?_⟩
      · have h := h.1 c2
        exact x_return dX2_fillBenches_31 ⟨rfl, rfl, rfl, h⟩
      · have h := h.2 c2
        refine x_aload_n dX2_fillBenches_21 rfl ?_
        refine x_getr (j := o0 + 20) dX2_fillBenches_22 fk_RX2_46 (Py_k ho0 hn 0 rfl) (Py_s0 ho0) (Py_r8 hG ho0) ?_
        refine x_geti dX2_fillBenches_25 fk_RX2_86 (Rw_k (Py_waiting ho0) hn 0 rfl) (Rw_s0 (Py_waiting ho0)) ?_
        refine x_if_ne dX2_fillBenches_28 (tgt := 32) rfl ⟨fun c3 => ?_, fun c3 => ?_⟩
        · have h := h.1 c3
          refine x_aload_n dX2_fillBenches_32 rfl ?_
          refine x_getr (j := o0 + 20) dX2_fillBenches_33 fk_RX2_46 (Py_k ho0 hn 0 rfl) (Py_s0 ho0) (Py_r8 hG ho0) ?_
          refine x_iconst (v := 0) dX2_fillBenches_36 ki_0 ?_
          refine x_cVl00 [.int 0] (mt_X4_at hn hG (Py_waiting ho0) h) dX2_fillBenches_37 lk_RX2_142 (Rw_k (Py_waiting ho0) hn 0 rfl) (Rw_s0 (Py_waiting ho0)) rfl rfl (Nat.le_of_ble_eq_true rfl) (Rf_of rfl) (fun x4 h => ?_)
          refine x_cSi00 [.long x4] (mt_X5_place hn hG h) dX2_fillBenches_40 lk_RX2_161 rfl rfl (Nat.le_of_ble_eq_true rfl) (Rf_of rfl) (fun x5 h => ?_)
          refine x_cNi00 [.int x5] (mt_X9_partOf hn hG h) dX2_fillBenches_43 lk_RX2_105 rfl rfl (Nat.le_of_ble_eq_true rfl) (Rf_of rfl) (fun x6 h => ?_)
          refine x_istore_n (ls' := [(2, .int x6), (0, .ref o0), (1, .int v1)]) dX2_fillBenches_46 (Nat.le_of_ble_eq_true rfl) rfl ?_
          refine x_aload_n dX2_fillBenches_47 rfl ?_
          refine x_getr (j := o0 + 20) dX2_fillBenches_48 fk_RX2_46 (Py_k ho0 hn 0 rfl) (Py_s0 ho0) (Py_r8 hG ho0) ?_
          refine x_iconst (v := 0) dX2_fillBenches_51 ki_0 ?_
          refine x_cVv11 [.int 0] (mt_X4_removeAt hn hG (Py_waiting ho0) h) dX2_fillBenches_52 lk_RX2_149 (Rw_k (Py_waiting ho0) hn 0 rfl) (Rw_s0 (Py_waiting ho0)) rfl rfl (Nat.le_of_ble_eq_true rfl) (Rf_of rfl) (fun I7 L8 h => ?_)
          refine x_aload_n dX2_fillBenches_55 rfl ?_
          refine x_iconst (v := 2) dX2_fillBenches_56 ki_2 ?_
          refine x_iload_n dX2_fillBenches_57 rfl ?_
          refine x_aload_n dX2_fillBenches_58 rfl ?_
          refine x_getr (j := o0 + 1) dX2_fillBenches_59 fk_RX2_12 (Py_k ho0 hn 0 rfl) (Py_s0 ho0) (Py_r0 hG ho0) ?_
          refine x_getr (j := o0 + 4) dX2_fillBenches_62 fk_RX2_173 (Pn_k (Py_plan ho0) hn 0 rfl) (Pn_s0 (Py_plan ho0)) (Pn_r7 hG (Py_plan ho0)) ?_
          refine x_iload_n dX2_fillBenches_65 rfl ?_
          obtain ⟨b9, h⟩ := h
          refine x_iaload dX2_fillBenches_66 (Pn_k (Py_plan ho0) hn 3 rfl) (Pn_s3 (Py_plan ho0)) b9 ?_
          refine x_cVv11 [.int 2, .int x6, .int (I7 (o0 + 4) (ix x6))] (mt_X2_beginWay hn hG ho0 h) dX2_fillBenches_67 lk_RX2_122 (Py_k ho0 hn 0 rfl) (Py_s0 ho0) rfl rfl (Nat.le_of_ble_eq_true rfl) (Rf_of rfl) (fun I10 L11 h => ?_)
          refine x_iinc (v := v1 + 1) (ls' := [(1, .int (v1 + 1)), (2, .int x6), (0, .ref o0)]) dX2_fillBenches_70 rfl (congrArg (_ + ·) ki_1) (Nat.le_of_ble_eq_true rfl) rfl ?_
          refine x_goto dX2_fillBenches_73 (tgt := 2) rfl ?_
          refine x_ls (ls' := [(0, .ref o0), (1, .int (v1 + 1))]) [2, 0] rfl ?_
          exact ih (v1 + 1) I10 L11 h
        · have h := h.2 c3
          exact x_return dX2_fillBenches_31 ⟨rfl, rfl, rfl, h⟩
def wp_X2_fillBenches (o0 : Nat) (I : MI) (L : ML) (Q : MI → ML → Prop) : Prop :=
    (∃ N12, lp_X2_fillBenches_2 o0 Q N12 0 I L)
set_option maxRecDepth 20000 in
theorem mt_X2_fillBenches {E : Ev} {l : Launch} {n : Nat} {R : MR} {o0 : Nat} (hn : 336 ≤ n) (hG : GRx R) (ho0 : isPlay o0) {I : MI} {L : ML} {Q : MI → ML → Prop} (h : wp_X2_fillBenches o0 I L Q) : MX E l rm_X2_fillBenches yX2_fillBenches cX2_fillBenches 3 none [.ref o0] n I L R (Qv n R (V11 I L Q)) := by
  refine MX_of (ls := [(0, .ref o0)]) (by decide) (Nat.le_of_ble_eq_true rfl) rfl ?_
  unfold wp_X2_fillBenches at h
  refine x_iconst (v := 0) dX2_fillBenches_0 ki_0 ?_
  refine x_istore_n (ls' := [(1, .int 0), (0, .ref o0)]) dX2_fillBenches_1 (Nat.le_of_ble_eq_true rfl) rfl ?_
  refine x_ls (ls' := [(0, .ref o0), (1, .int 0)]) [1, 0] rfl ?_
  obtain ⟨N12, h⟩ := h
  exact lpt_X2_fillBenches_2 hn hG ho0  N12 0 I L h
abbrev rm_X2_receive : Room := { frames := 2, cells := 0, slots := 0, locals := 69 }
def jn_X2_receive_29 (o0 : Nat) (I : MI) (L : ML) (v2 : Int32) (s0 : Int32) (Q : MI → ML → Prop) : Prop :=
    ((¬ s0 = (-1) → (wp_X4_at (o0 + 16) 72 L s0 (fun x4 => ((wp_X5_day x4 (fun x5 => ((wp_X4_removeAt (o0 + 16) 72 I L s0 (fun I6 L7 => ((vp_in v2 16 ∧ (vp_in v2 16 ∧ (∀ I10, I10 = u2 I6 (o0 + 11) (ix v2) ((I6 (o0 + 11) (ix v2)) - 1) → (∀ I11, I11 = u2 I10 o0 14 ((I10 o0 14) + 1) → (∀ I12, I12 = u2 I11 o0 15 ((I11 o0 15) + ((I o0 9) - x5)) → (∀ I13, I13 = u2 I12 o0 16 (if (I12 o0 16) < ((I o0 9) - x5) then ((I o0 9) - x5) else (I12 o0 16)) → Q I13 L7)))))))))))))))) ∧ (s0 = (-1) → (vp_in v2 16 ∧ (vp_in v2 16 ∧ (∀ I16, I16 = u2 I (o0 + 10) (ix v2) ((I (o0 + 10) (ix v2)) + 1) → Q I16 L)))))
set_option maxRecDepth 20000 in
theorem jnt_X2_receive_29 {E : Ev} {l : Launch} {n : Nat} {R : MR} {o0 : Nat} (hn : 336 ≤ n) (hG : GRx R) (ho0 : isPlay o0) {I0 : MI} {L0 : ML} {Q : MI → ML → Prop} {I : MI} {L : ML} {v2 : Int32} {s0 : Int32} (h : jn_X2_receive_29 o0 I L v2 s0 Q) : X E l rm_X2_receive yX2_receive cX2_receive 5 none noX (ZM E rm_X2_receive (Qv n R (V11 I0 L0 Q))) 29 [(0, .ref o0), (2, .int v2)] [.int s0] n I L R 0 0 := by
  unfold jn_X2_receive_29 at h
  refine x_istore_n (ls' := [(3, .int s0), (0, .ref o0), (2, .int v2)]) dX2_receive_29 (Nat.le_of_ble_eq_true rfl) rfl ?_
  refine x_iload_n dX2_receive_30 rfl ?_
  refine x_iconst (v := (-1)) dX2_receive_31 ki_m1 ?_
  refine x_icmp_ne dX2_receive_32 (tgt := 46) rfl ⟨fun c3 => ?_, fun c3 => ?_⟩
  · have h := h.1 c3
    refine x_aload_n dX2_receive_46 rfl ?_
    refine x_geti dX2_receive_47 fk_RX2_49 (Py_k ho0 hn 0 rfl) (Py_s0 ho0) ?_
    refine x_aload_n dX2_receive_50 rfl ?_
    refine x_getr (j := o0 + 16) dX2_receive_51 fk_RX2_40 (Py_k ho0 hn 0 rfl) (Py_s0 ho0) (Py_r6 hG ho0) ?_
    refine x_iload_n dX2_receive_54 rfl ?_
    refine x_cVl00 [.int s0] (mt_X4_at hn hG (Py_wants ho0) h) dX2_receive_55 lk_RX2_142 (Rw_k (Py_wants ho0) hn 0 rfl) (Rw_s0 (Py_wants ho0)) rfl rfl (Nat.le_of_ble_eq_true rfl) (Rf_of rfl) (fun x4 h => ?_)
    refine x_cSi00 [.long x4] (mt_X5_day hn hG h) dX2_receive_58 lk_RX2_146 rfl rfl (Nat.le_of_ble_eq_true rfl) (Rf_of rfl) (fun x5 h => ?_)
    refine x_isub dX2_receive_61 ?_
    refine x_istore (ls' := [(4, .int ((I o0 9) - x5)), (3, .int s0), (0, .ref o0), (2, .int v2)]) dX2_receive_62 (Nat.le_of_ble_eq_true rfl) rfl ?_
    refine x_aload_n dX2_receive_64 rfl ?_
    refine x_getr (j := o0 + 16) dX2_receive_65 fk_RX2_40 (Py_k ho0 hn 0 rfl) (Py_s0 ho0) (Py_r6 hG ho0) ?_
    refine x_iload_n dX2_receive_68 rfl ?_
    refine x_cVv11 [.int s0] (mt_X4_removeAt hn hG (Py_wants ho0) h) dX2_receive_69 lk_RX2_149 (Rw_k (Py_wants ho0) hn 0 rfl) (Rw_s0 (Py_wants ho0)) rfl rfl (Nat.le_of_ble_eq_true rfl) (Rf_of rfl) (fun I6 L7 h => ?_)
    refine x_aload_n dX2_receive_72 rfl ?_
    refine x_getr (j := o0 + 11) dX2_receive_73 fk_RX2_22 (Py_k ho0 hn 0 rfl) (Py_s0 ho0) (Py_r2 hG ho0) ?_
    refine x_iload_n dX2_receive_76 rfl ?_
    refine x_dup2 dX2_receive_77 rfl rfl ?_
    obtain ⟨b8, h⟩ := h
    refine x_iaload dX2_receive_78 (Py_k ho0 hn 11 rfl) (Py_s11 ho0) b8 ?_
    refine x_iconst (v := 1) dX2_receive_79 ki_1 ?_
    refine x_isub dX2_receive_80 ?_
    obtain ⟨b9, h⟩ := h
    refine x_iastore dX2_receive_81 (Py_k ho0 hn 11 rfl) (Py_s11 ho0) b9 (fun I10 eI10 => ?_)
    have h := h I10 eI10
    refine x_aload_n dX2_receive_82 rfl ?_
    refine x_dup dX2_receive_83 rfl ?_
    refine x_geti dX2_receive_84 fk_RX2_65 (Py_k ho0 hn 0 rfl) (Py_s0 ho0) ?_
    refine x_iconst (v := 1) dX2_receive_87 ki_1 ?_
    refine x_iadd dX2_receive_88 ?_
    refine x_puti dX2_receive_89 fk_RX2_65 fw_2_14 (vp_nar_int _) rfl (Py_k ho0 hn 0 rfl) (Py_s0 ho0) (fun I11 eI11 => ?_)
    have h := h I11 eI11
    refine x_aload_n dX2_receive_92 rfl ?_
    refine x_dup dX2_receive_93 rfl ?_
    refine x_geti dX2_receive_94 fk_RX2_68 (Py_k ho0 hn 0 rfl) (Py_s0 ho0) ?_
    refine x_iload dX2_receive_97 rfl ?_
    refine x_iadd dX2_receive_99 ?_
    refine x_puti dX2_receive_100 fk_RX2_68 fw_2_15 (vp_nar_int _) rfl (Py_k ho0 hn 0 rfl) (Py_s0 ho0) (fun I12 eI12 => ?_)
    have h := h I12 eI12
    refine x_aload_n dX2_receive_103 rfl ?_
    refine x_aload_n dX2_receive_104 rfl ?_
    refine x_geti dX2_receive_105 fk_RX2_71 (Py_k ho0 hn 0 rfl) (Py_s0 ho0) ?_
    refine x_iload dX2_receive_108 rfl ?_
    refine x_mmax dX2_receive_110 lk_RX2_152 ⟨Nat.le_of_ble_eq_true rfl, Nat.le_of_ble_eq_true rfl, Nat.le_refl _, Nat.le_refl _⟩ ?_
    refine x_puti dX2_receive_113 fk_RX2_71 fw_2_16 (vp_nar_int _) rfl (Py_k ho0 hn 0 rfl) (Py_s0 ho0) (fun I13 eI13 => ?_)
    have h := h I13 eI13
    exact x_return dX2_receive_116 ⟨rfl, rfl, rfl, h⟩
  · have h := h.2 c3
    refine x_aload_n dX2_receive_35 rfl ?_
    refine x_getr (j := o0 + 10) dX2_receive_36 fk_RX2_18 (Py_k ho0 hn 0 rfl) (Py_s0 ho0) (Py_r1 hG ho0) ?_
    refine x_iload_n dX2_receive_39 rfl ?_
    refine x_dup2 dX2_receive_40 rfl rfl ?_
    obtain ⟨b14, h⟩ := h
    refine x_iaload dX2_receive_41 (Py_k ho0 hn 10 rfl) (Py_s10 ho0) b14 ?_
    refine x_iconst (v := 1) dX2_receive_42 ki_1 ?_
    refine x_iadd dX2_receive_43 ?_
    obtain ⟨b15, h⟩ := h
    refine x_iastore dX2_receive_44 (Py_k ho0 hn 10 rfl) (Py_s10 ho0) b15 (fun I16 eI16 => ?_)
    have h := h I16 eI16
    exact x_return dX2_receive_45 ⟨rfl, rfl, rfl, h⟩
def wp_X2_receive (o0 : Nat) (I : MI) (L : ML) (v1 : Int32) (Q : MI → ML → Prop) : Prop :=
    (vp_in (v1 &&& 15) 16 ∧ (((I (o0 + 11) (ix (v1 &&& 15))) ≤ 0 → (jn_X2_receive_29 o0 I L (v1 &&& 15) (-1) Q)) ∧ (¬ (I (o0 + 11) (ix (v1 &&& 15))) ≤ 0 → (wp_X4_findAt (o0 + 16) 72 I L 15 (v1 &&& 15) 0 (fun x17 => ((jn_X2_receive_29 o0 I L (v1 &&& 15) x17 Q)))))))
set_option maxRecDepth 20000 in
theorem mt_X2_receive {E : Ev} {l : Launch} {n : Nat} {R : MR} {o0 : Nat} (hn : 336 ≤ n) (hG : GRx R) (ho0 : isPlay o0) {I : MI} {L : ML} {v1 : Int32} {Q : MI → ML → Prop} (h : wp_X2_receive o0 I L v1 Q) : MX E l rm_X2_receive yX2_receive cX2_receive 5 none [.ref o0, .int v1] n I L R (Qv n R (V11 I L Q)) := by
  refine MX_of (ls := [(0, .ref o0), (1, .int v1)]) (by decide) (Nat.le_of_ble_eq_true rfl) rfl ?_
  unfold wp_X2_receive at h
  refine x_iload_n dX2_receive_0 rfl ?_
  refine x_bipush (v := 15) dX2_receive_1 kb_15 ?_
  refine x_iand dX2_receive_3 ?_
  refine x_istore_n (ls' := [(2, .int (v1 &&& 15)), (0, .ref o0), (1, .int v1)]) dX2_receive_4 (Nat.le_of_ble_eq_true rfl) rfl ?_
  refine x_aload_n dX2_receive_5 rfl ?_
  refine x_getr (j := o0 + 11) dX2_receive_6 fk_RX2_22 (Py_k ho0 hn 0 rfl) (Py_s0 ho0) (Py_r2 hG ho0) ?_
  refine x_iload_n dX2_receive_9 rfl ?_
  obtain ⟨b1, h⟩ := h
  refine x_iaload dX2_receive_10 (Py_k ho0 hn 11 rfl) (Py_s11 ho0) b1 ?_
  refine x_if_le dX2_receive_11 (tgt := 28) rfl ⟨fun c2 => ?_, fun c2 => ?_⟩
  · have h := h.1 c2
    refine x_iconst (v := (-1)) dX2_receive_28 ki_m1 ?_
    refine x_ls (ls' := [(0, .ref o0), (2, .int (v1 &&& 15))]) [1, 0] rfl ?_
    exact jnt_X2_receive_29 hn hG ho0  h
  · have h := h.2 c2
    refine x_aload_n dX2_receive_14 rfl ?_
    refine x_getr (j := o0 + 16) dX2_receive_15 fk_RX2_40 (Py_k ho0 hn 0 rfl) (Py_s0 ho0) (Py_r6 hG ho0) ?_
    refine x_bipush (v := 15) dX2_receive_18 kb_15 ?_
    refine x_iload_n dX2_receive_20 rfl ?_
    refine x_iconst (v := 0) dX2_receive_21 ki_0 ?_
    refine x_cVi00 [.int 15, .int (v1 &&& 15), .int 0] (mt_X4_findAt hn hG (Py_wants ho0) h) dX2_receive_22 lk_RX2_138 (Rw_k (Py_wants ho0) hn 0 rfl) (Rw_s0 (Py_wants ho0)) rfl rfl (Nat.le_of_ble_eq_true rfl) (Rf_of rfl) (fun x17 h => ?_)
    refine x_goto dX2_receive_25 (tgt := 29) rfl ?_
    refine x_ls (ls' := [(0, .ref o0), (2, .int (v1 &&& 15))]) [1, 0] rfl ?_
    exact jnt_X2_receive_29 hn hG ho0  h
abbrev rm_X2_come : Room := { frames := 3, cells := 0, slots := 0, locals := 94 }
def wp_X2_come (o0 : Nat) (I : MI) (L : ML) (v1 : Int32) (v2 : Int32) (Q : MI → ML → Prop) : Prop :=
    (wp_X9_partOf v2 (fun x1 => (((¬ v1 = 1 → ((¬ v1 = 2 → (wp_X2_receive o0 I L v2 (fun I4 L5 => (Q I4 L5)))) ∧ (v1 = 2 → (∀ I6, I6 = u2 I o0 11 ((I o0 11) - 1) → (vp_in x1 4 ∧ (vp_in x1 4 ∧ (∀ I9, I9 = u2 I6 (o0 + 13) (ix x1) ((I6 (o0 + 13) (ix x1)) + 1) → (wp_X2_answerCalls o0 I9 L x1 (fun I10 L11 => ((wp_X2_fillBenches o0 I10 L11 (fun I12 L13 => (Q I12 L13))))))))))))) ∧ (v1 = 1 → (wp_X5_of 0 0 0 x1 (fun x14 => ((wp_X4_add (o0 + 20) 184 I L x14 (fun I15 L16 => ((wp_X2_fillBenches o0 I15 L16 (fun I17 L18 => (Q I17 L18))))))))))))))
set_option maxRecDepth 20000 in
theorem mt_X2_come {E : Ev} {l : Launch} {n : Nat} {R : MR} {o0 : Nat} (hn : 336 ≤ n) (hG : GRx R) (ho0 : isPlay o0) {I : MI} {L : ML} {v1 : Int32} {v2 : Int32} {Q : MI → ML → Prop} (h : wp_X2_come o0 I L v1 v2 Q) : MX E l rm_X2_come yX2_come cX2_come 4 none [.ref o0, .int v1, .int v2] n I L R (Qv n R (V11 I L Q)) := by
  refine MX_of (ls := [(0, .ref o0), (1, .int v1), (2, .int v2)]) (by decide) (Nat.le_of_ble_eq_true rfl) rfl ?_
  unfold wp_X2_come at h
  refine x_iload_n dX2_come_0 rfl ?_
  refine x_cNi00 [.int v2] (mt_X9_partOf hn hG h) dX2_come_1 lk_RX2_105 rfl rfl (Nat.le_of_ble_eq_true rfl) (Rf_of rfl) (fun x1 h => ?_)
  refine x_istore_n (ls' := [(3, .int x1), (0, .ref o0), (1, .int v1), (2, .int v2)]) dX2_come_4 (Nat.le_of_ble_eq_true rfl) rfl ?_
  refine x_iload_n dX2_come_5 rfl ?_
  refine x_iconst (v := 1) dX2_come_6 ki_1 ?_
  refine x_icmp_ne dX2_come_7 (tgt := 31) rfl ⟨fun c2 => ?_, fun c2 => ?_⟩
  · have h := h.1 c2
    refine x_iload_n dX2_come_31 rfl ?_
    refine x_iconst (v := 2) dX2_come_32 ki_2 ?_
    refine x_icmp_ne dX2_come_33 (tgt := 68) rfl ⟨fun c3 => ?_, fun c3 => ?_⟩
    · have h := h.1 c3
      refine x_aload_n dX2_come_68 rfl ?_
      refine x_iload_n dX2_come_69 rfl ?_
      refine x_cVv11 [.int v2] (mt_X2_receive hn hG ho0 h) dX2_come_70 lk_RX2_186 (Py_k ho0 hn 0 rfl) (Py_s0 ho0) rfl rfl (Nat.le_of_ble_eq_true rfl) (Rf_of rfl) (fun I4 L5 h => ?_)
      exact x_return dX2_come_73 ⟨rfl, rfl, rfl, h⟩
    · have h := h.2 c3
      refine x_aload_n dX2_come_36 rfl ?_
      refine x_dup dX2_come_37 rfl ?_
      refine x_geti dX2_come_38 fk_RX2_56 (Py_k ho0 hn 0 rfl) (Py_s0 ho0) ?_
      refine x_iconst (v := 1) dX2_come_41 ki_1 ?_
      refine x_isub dX2_come_42 ?_
      refine x_puti dX2_come_43 fk_RX2_56 fw_2_11 (vp_nar_int _) rfl (Py_k ho0 hn 0 rfl) (Py_s0 ho0) (fun I6 eI6 => ?_)
      have h := h I6 eI6
      refine x_aload_n dX2_come_46 rfl ?_
      refine x_getr (j := o0 + 13) dX2_come_47 fk_RX2_28 (Py_k ho0 hn 0 rfl) (Py_s0 ho0) (Py_r4 hG ho0) ?_
      refine x_iload_n dX2_come_50 rfl ?_
      refine x_dup2 dX2_come_51 rfl rfl ?_
      obtain ⟨b7, h⟩ := h
      refine x_iaload dX2_come_52 (Py_k ho0 hn 13 rfl) (Py_s13 ho0) b7 ?_
      refine x_iconst (v := 1) dX2_come_53 ki_1 ?_
      refine x_iadd dX2_come_54 ?_
      obtain ⟨b8, h⟩ := h
      refine x_iastore dX2_come_55 (Py_k ho0 hn 13 rfl) (Py_s13 ho0) b8 (fun I9 eI9 => ?_)
      have h := h I9 eI9
      refine x_aload_n dX2_come_56 rfl ?_
      refine x_iload_n dX2_come_57 rfl ?_
      refine x_cVv11 [.int x1] (mt_X2_answerCalls hn hG ho0 h) dX2_come_58 lk_RX2_132 (Py_k ho0 hn 0 rfl) (Py_s0 ho0) rfl rfl (Nat.le_of_ble_eq_true rfl) (Rf_of rfl) (fun I10 L11 h => ?_)
      refine x_aload_n dX2_come_61 rfl ?_
      refine x_cVv11 [] (mt_X2_fillBenches hn hG ho0 h) dX2_come_62 lk_RX2_170 (Py_k ho0 hn 0 rfl) (Py_s0 ho0) rfl rfl (Nat.le_of_ble_eq_true rfl) (Rf_of rfl) (fun I12 L13 h => ?_)
      refine x_goto dX2_come_65 (tgt := 73) rfl ?_
      exact x_return dX2_come_73 ⟨rfl, rfl, rfl, h⟩
  · have h := h.2 c2
    refine x_aload_n dX2_come_10 rfl ?_
    refine x_getr (j := o0 + 20) dX2_come_11 fk_RX2_46 (Py_k ho0 hn 0 rfl) (Py_s0 ho0) (Py_r8 hG ho0) ?_
    refine x_iconst (v := 0) dX2_come_14 ki_0 ?_
    refine x_iconst (v := 0) dX2_come_15 ki_0 ?_
    refine x_iconst (v := 0) dX2_come_16 ki_0 ?_
    refine x_iload_n dX2_come_17 rfl ?_
    refine x_cSl00 [.int 0, .int 0, .int 0, .int x1] (mt_X5_of hn hG h) dX2_come_18 lk_RX2_109 rfl rfl (Nat.le_of_ble_eq_true rfl) (Rf_of rfl) (fun x14 h => ?_)
    refine x_cVv11 [.long x14] (mt_X4_add hn hG (Py_waiting ho0) h) dX2_come_21 lk_RX2_115 (Rw_k (Py_waiting ho0) hn 0 rfl) (Rw_s0 (Py_waiting ho0)) rfl rfl (Nat.le_of_ble_eq_true rfl) (Rf_of rfl) (fun I15 L16 h => ?_)
    refine x_aload_n dX2_come_24 rfl ?_
    refine x_cVv11 [] (mt_X2_fillBenches hn hG ho0 h) dX2_come_25 lk_RX2_170 (Py_k ho0 hn 0 rfl) (Py_s0 ho0) rfl rfl (Nat.le_of_ble_eq_true rfl) (Rf_of rfl) (fun I17 L18 h => ?_)
    refine x_goto dX2_come_28 (tgt := 73) rfl ?_
    exact x_return dX2_come_73 ⟨rfl, rfl, rfl, h⟩
abbrev rm_X2_hasOneToLend : Room := { frames := 0, cells := 0, slots := 0, locals := 0 }
def lp_X2_hasOneToLend_2 (o0 : Nat) (I : MI) (Q : Int32 → Prop) : Nat → Int32 → Prop
  | 0, _ => False
  | n + 1, v1 =>
    ((16 ≤ v1 → Q 0) ∧ (¬ 16 ≤ v1 → (vp_in v1 16 ∧ (((I (o0 + 10) (ix v1)) ≤ (I (o0 + 1) 3) → (lp_X2_hasOneToLend_2 o0 I Q n (v1 + 1))) ∧ (¬ (I (o0 + 10) (ix v1)) ≤ (I (o0 + 1) 3) → Q 1)))))
set_option maxRecDepth 20000 in
theorem lpt_X2_hasOneToLend_2 {E : Ev} {l : Launch} {n : Nat} {R : MR} {o0 : Nat} (hn : 336 ≤ n) (hG : GRx R) (ho0 : isPlay o0) {Q : Int32 → Prop} {I : MI} {L : ML} : ∀ (N : Nat) (v1 : Int32), lp_X2_hasOneToLend_2 o0 I Q N v1 → X E l rm_X2_hasOneToLend yX2_hasOneToLend cX2_hasOneToLend 2 (some .boolean) noX (ZM E rm_X2_hasOneToLend (Qi n R (P00 I L Q))) 2 [(0, .ref o0), (1, .int v1)] [] n I L R 0 0 := by
  intro N
  induction N with
  | zero => intro v1 h; exact False.elim h
  | succ N ih =>
    intro v1 h
    unfold lp_X2_hasOneToLend_2 at h
    refine x_iload_n dX2_hasOneToLend_2 rfl ?_
    refine x_bipush (v := 16) dX2_hasOneToLend_3 kb_16 ?_
    refine x_icmp_ge dX2_hasOneToLend_5 (tgt := 32) rfl ⟨fun c1 => ?_, fun c1 => ?_⟩
    · have h := h.1 c1
      refine x_iconst (v := 0) dX2_hasOneToLend_32 ki_0 ?_
      exact x_zreturn dX2_hasOneToLend_33 rfl ⟨_, rfl, rfl, rfl, rfl, rfl, h⟩
    · have h := h.2 c1
      refine x_aload_n dX2_hasOneToLend_8 rfl ?_
      refine x_getr (j := o0 + 10) dX2_hasOneToLend_9 fk_RX2_18 (Py_k ho0 hn 0 rfl) (Py_s0 ho0) (Py_r1 hG ho0) ?_
      refine x_iload_n dX2_hasOneToLend_12 rfl ?_
      obtain ⟨b2, h⟩ := h
      refine x_iaload dX2_hasOneToLend_13 (Py_k ho0 hn 10 rfl) (Py_s10 ho0) b2 ?_
      refine x_aload_n dX2_hasOneToLend_14 rfl ?_
      refine x_getr (j := o0 + 1) dX2_hasOneToLend_15 fk_RX2_12 (Py_k ho0 hn 0 rfl) (Py_s0 ho0) (Py_r0 hG ho0) ?_
      refine x_geti dX2_hasOneToLend_18 fk_RX2_203 (Pn_k (Py_plan ho0) hn 0 rfl) (Pn_s0 (Py_plan ho0)) ?_
      refine x_icmp_le dX2_hasOneToLend_21 (tgt := 26) rfl ⟨fun c3 => ?_, fun c3 => ?_⟩
      · have h := h.1 c3
        refine x_iinc (v := v1 + 1) (ls' := [(1, .int (v1 + 1)), (0, .ref o0)]) dX2_hasOneToLend_26 rfl (congrArg (_ + ·) ki_1) (Nat.le_of_ble_eq_true rfl) rfl ?_
        refine x_goto dX2_hasOneToLend_29 (tgt := 2) rfl ?_
        refine x_ls (ls' := [(0, .ref o0), (1, .int (v1 + 1))]) [1, 0] rfl ?_
        exact ih (v1 + 1) h
      · have h := h.2 c3
        refine x_iconst (v := 1) dX2_hasOneToLend_24 ki_1 ?_
        exact x_zreturn dX2_hasOneToLend_25 rfl ⟨_, rfl, rfl, rfl, rfl, rfl, h⟩
def wp_X2_hasOneToLend (o0 : Nat) (I : MI) (Q : Int32 → Prop) : Prop :=
    (∃ N4, lp_X2_hasOneToLend_2 o0 I Q N4 0)
set_option maxRecDepth 20000 in
theorem mt_X2_hasOneToLend {E : Ev} {l : Launch} {n : Nat} {R : MR} {o0 : Nat} (hn : 336 ≤ n) (hG : GRx R) (ho0 : isPlay o0) {I : MI} {L : ML} {Q : Int32 → Prop} (h : wp_X2_hasOneToLend o0 I Q) : MX E l rm_X2_hasOneToLend yX2_hasOneToLend cX2_hasOneToLend 2 (some .boolean) [.ref o0] n I L R (Qi n R (P00 I L Q)) := by
  refine MX_of (ls := [(0, .ref o0)]) (by decide) (Nat.le_of_ble_eq_true rfl) rfl ?_
  unfold wp_X2_hasOneToLend at h
  refine x_iconst (v := 0) dX2_hasOneToLend_0 ki_0 ?_
  refine x_istore_n (ls' := [(1, .int 0), (0, .ref o0)]) dX2_hasOneToLend_1 (Nat.le_of_ble_eq_true rfl) rfl ?_
  refine x_ls (ls' := [(0, .ref o0), (1, .int 0)]) [1, 0] rfl ?_
  obtain ⟨N4, h⟩ := h
  exact lpt_X2_hasOneToLend_2 hn hG ho0  N4 0 h
abbrev rm_X2_lend : Room := { frames := 2, cells := 0, slots := 0, locals := 46 }
def wp_X2_lend (o0 : Nat) (I : MI) (L : ML) (v1 : Int32) (v2 : Int32) (Q : MI → ML → Prop) : Prop :=
    (vp_in v1 16 ∧ (vp_in v1 16 ∧ (∀ I3, I3 = u2 I (o0 + 10) (ix v1) ((I (o0 + 10) (ix v1)) - 1) → (vp_in v1 16 ∧ (vp_in v1 16 ∧ (∀ I6, I6 = u2 I3 (o0 + 12) (ix v1) ((I3 (o0 + 12) (ix v1)) - 1) → (vp_in v2 16 ∧ (vp_in v2 16 ∧ (∀ I9, I9 = u2 I6 (o0 + 12) (ix v2) ((I6 (o0 + 12) (ix v2)) + 1) → (∀ I10, I10 = u2 I9 o0 17 ((I9 o0 17) + 1) → (wp_X9_baseOf v1 (fun x11 => ((vp_in x11 4 ∧ (wp_X9_baseOf v2 (fun x13 => ((vp_in x13 4 ∧ (wp_X2_beginWay o0 I10 L 4 v2 ((I10 (o0 + 6) (ix x11)) + (I10 (o0 + 6) (ix x13))) (fun I15 L16 => (Q I15 L16)))))))))))))))))))))
set_option maxRecDepth 20000 in
theorem mt_X2_lend {E : Ev} {l : Launch} {n : Nat} {R : MR} {o0 : Nat} (hn : 336 ≤ n) (hG : GRx R) (ho0 : isPlay o0) {I : MI} {L : ML} {v1 : Int32} {v2 : Int32} {Q : MI → ML → Prop} (h : wp_X2_lend o0 I L v1 v2 Q) : MX E l rm_X2_lend yX2_lend cX2_lend 3 none [.ref o0, .int v1, .int v2] n I L R (Qv n R (V11 I L Q)) := by
  refine MX_of (ls := [(0, .ref o0), (1, .int v1), (2, .int v2)]) (by decide) (Nat.le_of_ble_eq_true rfl) rfl ?_
  unfold wp_X2_lend at h
  refine x_aload_n dX2_lend_0 rfl ?_
  refine x_getr (j := o0 + 10) dX2_lend_1 fk_RX2_18 (Py_k ho0 hn 0 rfl) (Py_s0 ho0) (Py_r1 hG ho0) ?_
  refine x_iload_n dX2_lend_4 rfl ?_
  refine x_dup2 dX2_lend_5 rfl rfl ?_
  obtain ⟨b1, h⟩ := h
  refine x_iaload dX2_lend_6 (Py_k ho0 hn 10 rfl) (Py_s10 ho0) b1 ?_
  refine x_iconst (v := 1) dX2_lend_7 ki_1 ?_
  refine x_isub dX2_lend_8 ?_
  obtain ⟨b2, h⟩ := h
  refine x_iastore dX2_lend_9 (Py_k ho0 hn 10 rfl) (Py_s10 ho0) b2 (fun I3 eI3 => ?_)
  have h := h I3 eI3
  refine x_aload_n dX2_lend_10 rfl ?_
  refine x_getr (j := o0 + 12) dX2_lend_11 fk_RX2_25 (Py_k ho0 hn 0 rfl) (Py_s0 ho0) (Py_r3 hG ho0) ?_
  refine x_iload_n dX2_lend_14 rfl ?_
  refine x_dup2 dX2_lend_15 rfl rfl ?_
  obtain ⟨b4, h⟩ := h
  refine x_iaload dX2_lend_16 (Py_k ho0 hn 12 rfl) (Py_s12 ho0) b4 ?_
  refine x_iconst (v := 1) dX2_lend_17 ki_1 ?_
  refine x_isub dX2_lend_18 ?_
  obtain ⟨b5, h⟩ := h
  refine x_iastore dX2_lend_19 (Py_k ho0 hn 12 rfl) (Py_s12 ho0) b5 (fun I6 eI6 => ?_)
  have h := h I6 eI6
  refine x_aload_n dX2_lend_20 rfl ?_
  refine x_getr (j := o0 + 12) dX2_lend_21 fk_RX2_25 (Py_k ho0 hn 0 rfl) (Py_s0 ho0) (Py_r3 hG ho0) ?_
  refine x_iload_n dX2_lend_24 rfl ?_
  refine x_dup2 dX2_lend_25 rfl rfl ?_
  obtain ⟨b7, h⟩ := h
  refine x_iaload dX2_lend_26 (Py_k ho0 hn 12 rfl) (Py_s12 ho0) b7 ?_
  refine x_iconst (v := 1) dX2_lend_27 ki_1 ?_
  refine x_iadd dX2_lend_28 ?_
  obtain ⟨b8, h⟩ := h
  refine x_iastore dX2_lend_29 (Py_k ho0 hn 12 rfl) (Py_s12 ho0) b8 (fun I9 eI9 => ?_)
  have h := h I9 eI9
  refine x_aload_n dX2_lend_30 rfl ?_
  refine x_dup dX2_lend_31 rfl ?_
  refine x_geti dX2_lend_32 fk_RX2_74 (Py_k ho0 hn 0 rfl) (Py_s0 ho0) ?_
  refine x_iconst (v := 1) dX2_lend_35 ki_1 ?_
  refine x_iadd dX2_lend_36 ?_
  refine x_puti dX2_lend_37 fk_RX2_74 fw_2_17 (vp_nar_int _) rfl (Py_k ho0 hn 0 rfl) (Py_s0 ho0) (fun I10 eI10 => ?_)
  have h := h I10 eI10
  refine x_aload_n dX2_lend_40 rfl ?_
  refine x_iconst (v := 4) dX2_lend_41 ki_4 ?_
  refine x_iload_n dX2_lend_42 rfl ?_
  refine x_aload_n dX2_lend_43 rfl ?_
  refine x_getr (j := o0 + 1) dX2_lend_44 fk_RX2_12 (Py_k ho0 hn 0 rfl) (Py_s0 ho0) (Py_r0 hG ho0) ?_
  refine x_getr (j := o0 + 6) dX2_lend_47 fk_RX2_126 (Pn_k (Py_plan ho0) hn 0 rfl) (Pn_s0 (Py_plan ho0)) (Pn_r9 hG (Py_plan ho0)) ?_
  refine x_iload_n dX2_lend_50 rfl ?_
  refine x_cNi00 [.int v1] (mt_X9_baseOf hn hG h) dX2_lend_51 lk_RX2_129 rfl rfl (Nat.le_of_ble_eq_true rfl) (Rf_of rfl) (fun x11 h => ?_)
  obtain ⟨b12, h⟩ := h
  refine x_iaload dX2_lend_54 (Pn_k (Py_plan ho0) hn 5 rfl) (Pn_s5 (Py_plan ho0)) b12 ?_
  refine x_aload_n dX2_lend_55 rfl ?_
  refine x_getr (j := o0 + 1) dX2_lend_56 fk_RX2_12 (Py_k ho0 hn 0 rfl) (Py_s0 ho0) (Py_r0 hG ho0) ?_
  refine x_getr (j := o0 + 6) dX2_lend_59 fk_RX2_126 (Pn_k (Py_plan ho0) hn 0 rfl) (Pn_s0 (Py_plan ho0)) (Pn_r9 hG (Py_plan ho0)) ?_
  refine x_iload_n dX2_lend_62 rfl ?_
  refine x_cNi00 [.int v2] (mt_X9_baseOf hn hG h) dX2_lend_63 lk_RX2_129 rfl rfl (Nat.le_of_ble_eq_true rfl) (Rf_of rfl) (fun x13 h => ?_)
  obtain ⟨b14, h⟩ := h
  refine x_iaload dX2_lend_66 (Pn_k (Py_plan ho0) hn 5 rfl) (Pn_s5 (Py_plan ho0)) b14 ?_
  refine x_iadd dX2_lend_67 ?_
  refine x_cVv11 [.int 4, .int v2, .int ((I10 (o0 + 6) (ix x11)) + (I10 (o0 + 6) (ix x13)))] (mt_X2_beginWay hn hG ho0 h) dX2_lend_68 lk_RX2_122 (Py_k ho0 hn 0 rfl) (Py_s0 ho0) rfl rfl (Nat.le_of_ble_eq_true rfl) (Rf_of rfl) (fun I15 L16 h => ?_)
  exact x_return dX2_lend_71 ⟨rfl, rfl, rfl, h⟩
abbrev rm_X2_lenderFor : Room := { frames := 1, cells := 0, slots := 0, locals := 21 }
def jn_X2_lenderFor_97 (v3 : Int32) (v4 : Int32) (v5 : Int32) (kj13 : Int32 → Int32 → Int32 → Prop) : Prop :=
    kj13 v3 v4 (v5 + 1)
set_option maxRecDepth 20000 in
theorem jnt_X2_lenderFor_97 {E : Ev} {l : Launch} {n : Nat} {R : MR} {o0 : Nat} (hn : 336 ≤ n) (hG : GRx R) (ho0 : isPlay o0) {Q : Int32 → Prop} {I : MI} {L : ML} {v1 : Int32} {v2 : Int32} {v3 : Int32} {v4 : Int32} {v5 : Int32} {kj13 : Int32 → Int32 → Int32 → Prop}
    (hJ13 : ∀ (v3 : Int32) (v4 : Int32) (v5 : Int32), kj13 v3 v4 v5 → X E l rm_X2_lenderFor yX2_lenderFor cX2_lenderFor 7 (some .int) noX (ZM E rm_X2_lenderFor (Qi n R (P00 I L Q))) 13 [(0, .ref o0), (1, .int v1), (2, .int v2), (3, .int v3), (4, .int v4), (5, .int v5)] [] n I L R 0 0) (h : jn_X2_lenderFor_97 v3 v4 v5 kj13) : X E l rm_X2_lenderFor yX2_lenderFor cX2_lenderFor 7 (some .int) noX (ZM E rm_X2_lenderFor (Qi n R (P00 I L Q))) 97 [(0, .ref o0), (1, .int v1), (2, .int v2), (3, .int v3), (4, .int v4), (5, .int v5)] [] n I L R 0 0 := by
  unfold jn_X2_lenderFor_97 at h
  refine x_iinc (v := v5 + 1) (ls' := [(5, .int (v5 + 1)), (0, .ref o0), (1, .int v1), (2, .int v2), (3, .int v3), (4, .int v4)]) dX2_lenderFor_97 rfl (congrArg (_ + ·) ki_1) (Nat.le_of_ble_eq_true rfl) rfl ?_
  refine x_goto dX2_lenderFor_100 (tgt := 13) rfl ?_
  refine x_ls (ls' := [(0, .ref o0), (1, .int v1), (2, .int v2), (3, .int v3), (4, .int v4), (5, .int (v5 + 1))]) [1, 2, 3, 4, 5, 0] rfl ?_
  exact hJ13 v3 v4 (v5 + 1) h
def jn_X2_lenderFor_82 (o0 : Nat) (I : MI) (v5 : Int32) (v6 : Int32) (kj13 : Int32 → Int32 → Int32 → Prop) : Prop :=
    (vp_in v5 4 ∧ (jn_X2_lenderFor_97 v6 (I (o0 + 6) (ix v5)) v5 (fun x16 x17 x18 => kj13 x16 x17 x18)))
set_option maxRecDepth 20000 in
theorem jnt_X2_lenderFor_82 {E : Ev} {l : Launch} {n : Nat} {R : MR} {o0 : Nat} (hn : 336 ≤ n) (hG : GRx R) (ho0 : isPlay o0) {Q : Int32 → Prop} {I : MI} {L : ML} {v1 : Int32} {v2 : Int32} {v5 : Int32} {v6 : Int32} {kj13 : Int32 → Int32 → Int32 → Prop}
    (hJ13 : ∀ (v3 : Int32) (v4 : Int32) (v5 : Int32), kj13 v3 v4 v5 → X E l rm_X2_lenderFor yX2_lenderFor cX2_lenderFor 7 (some .int) noX (ZM E rm_X2_lenderFor (Qi n R (P00 I L Q))) 13 [(0, .ref o0), (1, .int v1), (2, .int v2), (3, .int v3), (4, .int v4), (5, .int v5)] [] n I L R 0 0) (h : jn_X2_lenderFor_82 o0 I v5 v6 kj13) : X E l rm_X2_lenderFor yX2_lenderFor cX2_lenderFor 7 (some .int) noX (ZM E rm_X2_lenderFor (Qi n R (P00 I L Q))) 82 [(0, .ref o0), (1, .int v1), (2, .int v2), (5, .int v5), (6, .int v6)] [] n I L R 0 0 := by
  unfold jn_X2_lenderFor_82 at h
  refine x_iload dX2_lenderFor_82 rfl ?_
  refine x_istore_n (ls' := [(3, .int v6), (0, .ref o0), (1, .int v1), (2, .int v2), (5, .int v5), (6, .int v6)]) dX2_lenderFor_84 (Nat.le_of_ble_eq_true rfl) rfl ?_
  refine x_aload_n dX2_lenderFor_85 rfl ?_
  refine x_getr (j := o0 + 1) dX2_lenderFor_86 fk_RX2_12 (Py_k ho0 hn 0 rfl) (Py_s0 ho0) (Py_r0 hG ho0) ?_
  refine x_getr (j := o0 + 6) dX2_lenderFor_89 fk_RX2_126 (Pn_k (Py_plan ho0) hn 0 rfl) (Pn_s0 (Py_plan ho0)) (Pn_r9 hG (Py_plan ho0)) ?_
  refine x_iload dX2_lenderFor_92 rfl ?_
  obtain ⟨b15, h⟩ := h
  refine x_iaload dX2_lenderFor_94 (Pn_k (Py_plan ho0) hn 5 rfl) (Pn_s5 (Py_plan ho0)) b15 ?_
  refine x_istore (ls' := [(4, .int (I (o0 + 6) (ix v5))), (3, .int v6), (0, .ref o0), (1, .int v1), (2, .int v2), (5, .int v5), (6, .int v6)]) dX2_lenderFor_95 (Nat.le_of_ble_eq_true rfl) rfl ?_
  refine x_ls (ls' := [(0, .ref o0), (1, .int v1), (2, .int v2), (3, .int v6), (4, .int (I (o0 + 6) (ix v5))), (5, .int v5)]) [2, 3, 4, 1, 0, 5] rfl ?_
  refine jnt_X2_lenderFor_97 hn hG ho0 (fun x16 x17 x18 h => ?_) h
  exact hJ13 x16 x17 x18 h
def lp_X2_lenderFor_13 (o0 : Nat) (I : MI) (v1 : Int32) (v2 : Int32) (Q : Int32 → Prop) : Nat → Int32 → Int32 → Int32 → Prop
  | 0, _, _, _ => False
  | n + 1, v3, v4, v5 =>
    (((I (o0 + 1) 1) ≤ v5 → Q v3) ∧ (¬ (I (o0 + 1) 1) ≤ v5 → ((3 ≤ v5 → Q v3) ∧ (¬ 3 ≤ v5 → (wp_X9_placeOf v5 v2 (fun x4 => (((x4 = v1 → (jn_X2_lenderFor_97 v3 v4 v5 (fun x6 x7 x8 => (lp_X2_lenderFor_13 o0 I v1 v2 Q n x6 x7 x8)))) ∧ (¬ x4 = v1 → (vp_in x4 16 ∧ (((I (o0 + 10) (ix x4)) ≤ (I (o0 + 1) 3) → (jn_X2_lenderFor_97 v3 v4 v5 (fun x11 x12 x13 => (lp_X2_lenderFor_13 o0 I v1 v2 Q n x11 x12 x13)))) ∧ (¬ (I (o0 + 10) (ix x4)) ≤ (I (o0 + 1) 3) → ((v3 = (-1) → (jn_X2_lenderFor_82 o0 I v5 x4 (fun x19 x20 x21 => (lp_X2_lenderFor_13 o0 I v1 v2 Q n x19 x20 x21)))) ∧ (¬ v3 = (-1) → (vp_in v5 4 ∧ ((v4 ≤ (I (o0 + 6) (ix v5)) → (jn_X2_lenderFor_97 v3 v4 v5 (fun x24 x25 x26 => (lp_X2_lenderFor_13 o0 I v1 v2 Q n x24 x25 x26)))) ∧ (¬ v4 ≤ (I (o0 + 6) (ix v5)) → (jn_X2_lenderFor_82 o0 I v5 x4 (fun x27 x28 x29 => (lp_X2_lenderFor_13 o0 I v1 v2 Q n x27 x28 x29))))))))))))))))))))
set_option maxRecDepth 20000 in
theorem lpt_X2_lenderFor_13 {E : Ev} {l : Launch} {n : Nat} {R : MR} {o0 : Nat} (hn : 336 ≤ n) (hG : GRx R) (ho0 : isPlay o0) {Q : Int32 → Prop} {v1 : Int32} {v2 : Int32} {I : MI} {L : ML} : ∀ (N : Nat) (v3 : Int32) (v4 : Int32) (v5 : Int32), lp_X2_lenderFor_13 o0 I v1 v2 Q N v3 v4 v5 → X E l rm_X2_lenderFor yX2_lenderFor cX2_lenderFor 7 (some .int) noX (ZM E rm_X2_lenderFor (Qi n R (P00 I L Q))) 13 [(0, .ref o0), (1, .int v1), (2, .int v2), (3, .int v3), (4, .int v4), (5, .int v5)] [] n I L R 0 0 := by
  intro N
  induction N with
  | zero => intro v3 v4 v5 h; exact False.elim h
  | succ N ih =>
    intro v3 v4 v5 h
    unfold lp_X2_lenderFor_13 at h
    refine x_iload dX2_lenderFor_13 rfl ?_
    refine x_aload_n dX2_lenderFor_15 rfl ?_
    refine x_getr (j := o0 + 1) dX2_lenderFor_16 fk_RX2_12 (Py_k ho0 hn 0 rfl) (Py_s0 ho0) (Py_r0 hG ho0) ?_
    refine x_geti dX2_lenderFor_19 fk_RX2_206 (Pn_k (Py_plan ho0) hn 0 rfl) (Pn_s0 (Py_plan ho0)) ?_
    refine x_icmp_ge dX2_lenderFor_22 (tgt := 103) rfl ⟨fun c2 => ?_, fun c2 => ?_⟩
    · have h := h.1 c2
      refine x_iload_n dX2_lenderFor_103 rfl ?_
      exact x_ireturn dX2_lenderFor_104 ⟨_, rfl, rfl, rfl, rfl, rfl, h⟩
    · have h := h.2 c2
      refine x_iload dX2_lenderFor_25 rfl ?_
      refine x_iconst (v := 3) dX2_lenderFor_27 ki_3 ?_
      refine x_icmp_ge dX2_lenderFor_28 (tgt := 103) rfl ⟨fun c3 => ?_, fun c3 => ?_⟩
      · have h := h.1 c3
        refine x_iload_n dX2_lenderFor_103 rfl ?_
        exact x_ireturn dX2_lenderFor_104 ⟨_, rfl, rfl, rfl, rfl, rfl, h⟩
      · have h := h.2 c3
        refine x_iload dX2_lenderFor_31 rfl ?_
        refine x_iload_n dX2_lenderFor_33 rfl ?_
        refine x_cNi00 [.int v5, .int v2] (mt_X9_placeOf hn hG h) dX2_lenderFor_34 lk_RX2_209 rfl rfl (Nat.le_of_ble_eq_true rfl) (Rf_of rfl) (fun x4 h => ?_)
        refine x_istore (ls' := [(6, .int x4), (0, .ref o0), (1, .int v1), (2, .int v2), (3, .int v3), (4, .int v4), (5, .int v5)]) dX2_lenderFor_37 (Nat.le_of_ble_eq_true rfl) rfl ?_
        refine x_iload dX2_lenderFor_39 rfl ?_
        refine x_iload_n dX2_lenderFor_41 rfl ?_
        refine x_icmp_eq dX2_lenderFor_42 (tgt := 97) rfl ⟨fun c5 => ?_, fun c5 => ?_⟩
        · have h := h.1 c5
          refine x_ls (ls' := [(0, .ref o0), (1, .int v1), (2, .int v2), (3, .int v3), (4, .int v4), (5, .int v5)]) [1, 2, 3, 4, 5, 6] rfl ?_
          refine jnt_X2_lenderFor_97 hn hG ho0 (fun x6 x7 x8 h => ?_) h
          exact ih x6 x7 x8 h
        · have h := h.2 c5
          refine x_aload_n dX2_lenderFor_45 rfl ?_
          refine x_getr (j := o0 + 10) dX2_lenderFor_46 fk_RX2_18 (Py_k ho0 hn 0 rfl) (Py_s0 ho0) (Py_r1 hG ho0) ?_
          refine x_iload dX2_lenderFor_49 rfl ?_
          obtain ⟨b9, h⟩ := h
          refine x_iaload dX2_lenderFor_51 (Py_k ho0 hn 10 rfl) (Py_s10 ho0) b9 ?_
          refine x_aload_n dX2_lenderFor_52 rfl ?_
          refine x_getr (j := o0 + 1) dX2_lenderFor_53 fk_RX2_12 (Py_k ho0 hn 0 rfl) (Py_s0 ho0) (Py_r0 hG ho0) ?_
          refine x_geti dX2_lenderFor_56 fk_RX2_203 (Pn_k (Py_plan ho0) hn 0 rfl) (Pn_s0 (Py_plan ho0)) ?_
          refine x_icmp_le dX2_lenderFor_59 (tgt := 97) rfl ⟨fun c10 => ?_, fun c10 => ?_⟩
          · have h := h.1 c10
            refine x_ls (ls' := [(0, .ref o0), (1, .int v1), (2, .int v2), (3, .int v3), (4, .int v4), (5, .int v5)]) [1, 2, 3, 4, 5, 6] rfl ?_
            refine jnt_X2_lenderFor_97 hn hG ho0 (fun x11 x12 x13 h => ?_) h
            exact ih x11 x12 x13 h
          · have h := h.2 c10
            refine x_iload_n dX2_lenderFor_62 rfl ?_
            refine x_iconst (v := (-1)) dX2_lenderFor_63 ki_m1 ?_
            refine x_icmp_eq dX2_lenderFor_64 (tgt := 82) rfl ⟨fun c14 => ?_, fun c14 => ?_⟩
            · have h := h.1 c14
              refine x_ls (ls' := [(0, .ref o0), (1, .int v1), (2, .int v2), (5, .int v5), (6, .int x4)]) [1, 2, 3, 6, 0] rfl ?_
              refine jnt_X2_lenderFor_82 hn hG ho0 (fun x19 x20 x21 h => ?_) h
              exact ih x19 x20 x21 h
            · have h := h.2 c14
              refine x_aload_n dX2_lenderFor_67 rfl ?_
              refine x_getr (j := o0 + 1) dX2_lenderFor_68 fk_RX2_12 (Py_k ho0 hn 0 rfl) (Py_s0 ho0) (Py_r0 hG ho0) ?_
              refine x_getr (j := o0 + 6) dX2_lenderFor_71 fk_RX2_126 (Pn_k (Py_plan ho0) hn 0 rfl) (Pn_s0 (Py_plan ho0)) (Pn_r9 hG (Py_plan ho0)) ?_
              refine x_iload dX2_lenderFor_74 rfl ?_
              obtain ⟨b22, h⟩ := h
              refine x_iaload dX2_lenderFor_76 (Pn_k (Py_plan ho0) hn 5 rfl) (Pn_s5 (Py_plan ho0)) b22 ?_
              refine x_iload dX2_lenderFor_77 rfl ?_
              refine x_icmp_ge dX2_lenderFor_79 (tgt := 97) rfl ⟨fun c23 => ?_, fun c23 => ?_⟩
              · have h := h.1 c23
                refine x_ls (ls' := [(0, .ref o0), (1, .int v1), (2, .int v2), (3, .int v3), (4, .int v4), (5, .int v5)]) [1, 2, 3, 4, 5, 6] rfl ?_
                refine jnt_X2_lenderFor_97 hn hG ho0 (fun x24 x25 x26 h => ?_) h
                exact ih x24 x25 x26 h
              · have h := h.2 c23
                refine x_ls (ls' := [(0, .ref o0), (1, .int v1), (2, .int v2), (5, .int v5), (6, .int x4)]) [1, 2, 3, 6, 0] rfl ?_
                refine jnt_X2_lenderFor_82 hn hG ho0 (fun x27 x28 x29 h => ?_) h
                exact ih x27 x28 x29 h
def wp_X2_lenderFor (o0 : Nat) (I : MI) (v1 : Int32) (Q : Int32 → Prop) : Prop :=
    (wp_X9_partOf v1 (fun x1 => ((∃ N30, lp_X2_lenderFor_13 o0 I v1 x1 Q N30 (-1) 0 0))))
set_option maxRecDepth 20000 in
theorem mt_X2_lenderFor {E : Ev} {l : Launch} {n : Nat} {R : MR} {o0 : Nat} (hn : 336 ≤ n) (hG : GRx R) (ho0 : isPlay o0) {I : MI} {L : ML} {v1 : Int32} {Q : Int32 → Prop} (h : wp_X2_lenderFor o0 I v1 Q) : MX E l rm_X2_lenderFor yX2_lenderFor cX2_lenderFor 7 (some .int) [.ref o0, .int v1] n I L R (Qi n R (P00 I L Q)) := by
  refine MX_of (ls := [(0, .ref o0), (1, .int v1)]) (by decide) (Nat.le_of_ble_eq_true rfl) rfl ?_
  unfold wp_X2_lenderFor at h
  refine x_iload_n dX2_lenderFor_0 rfl ?_
  refine x_cNi00 [.int v1] (mt_X9_partOf hn hG h) dX2_lenderFor_1 lk_RX2_105 rfl rfl (Nat.le_of_ble_eq_true rfl) (Rf_of rfl) (fun x1 h => ?_)
  refine x_istore_n (ls' := [(2, .int x1), (0, .ref o0), (1, .int v1)]) dX2_lenderFor_4 (Nat.le_of_ble_eq_true rfl) rfl ?_
  refine x_iconst (v := (-1)) dX2_lenderFor_5 ki_m1 ?_
  refine x_istore_n (ls' := [(3, .int (-1)), (2, .int x1), (0, .ref o0), (1, .int v1)]) dX2_lenderFor_6 (Nat.le_of_ble_eq_true rfl) rfl ?_
  refine x_iconst (v := 0) dX2_lenderFor_7 ki_0 ?_
  refine x_istore (ls' := [(4, .int 0), (3, .int (-1)), (2, .int x1), (0, .ref o0), (1, .int v1)]) dX2_lenderFor_8 (Nat.le_of_ble_eq_true rfl) rfl ?_
  refine x_iconst (v := 0) dX2_lenderFor_10 ki_0 ?_
  refine x_istore (ls' := [(5, .int 0), (4, .int 0), (3, .int (-1)), (2, .int x1), (0, .ref o0), (1, .int v1)]) dX2_lenderFor_11 (Nat.le_of_ble_eq_true rfl) rfl ?_
  refine x_ls (ls' := [(0, .ref o0), (1, .int v1), (2, .int x1), (3, .int (-1)), (4, .int 0), (5, .int 0)]) [4, 5, 3, 2, 1, 0] rfl ?_
  obtain ⟨N30, h⟩ := h
  exact lpt_X2_lenderFor_13 hn hG ho0  N30 (-1) 0 0 h
abbrev rm_X2_lendAll : Room := { frames := 3, cells := 0, slots := 0, locals := 68 }
def jn_X2_lendAll_94 (I : MI) (L : ML) (v1 : Int32) (kj20 : Int32 → MI → ML → Prop) : Prop :=
    kj20 (v1 + 1) I L
set_option maxRecDepth 20000 in
theorem jnt_X2_lendAll_94 {E : Ev} {l : Launch} {n : Nat} {R : MR} {o0 : Nat} (hn : 336 ≤ n) (hG : GRx R) (ho0 : isPlay o0) {I0 : MI} {L0 : ML} {Q : MI → ML → Prop} {I : MI} {L : ML} {v1 : Int32} {kj20 : Int32 → MI → ML → Prop}
    (hJ20 : ∀ (v1 : Int32) (I : MI) (L : ML), kj20 v1 I L → X E l rm_X2_lendAll yX2_lendAll cX2_lendAll 6 none noX (ZM E rm_X2_lendAll (Qv n R (V11 I0 L0 Q))) 20 [(0, .ref o0), (1, .int v1)] [] n I L R 0 0) (h : jn_X2_lendAll_94 I L v1 kj20) : X E l rm_X2_lendAll yX2_lendAll cX2_lendAll 6 none noX (ZM E rm_X2_lendAll (Qv n R (V11 I0 L0 Q))) 94 [(0, .ref o0), (1, .int v1)] [] n I L R 0 0 := by
  unfold jn_X2_lendAll_94 at h
  refine x_iinc (v := v1 + 1) (ls' := [(1, .int (v1 + 1)), (0, .ref o0)]) dX2_lendAll_94 rfl (congrArg (_ + ·) ki_1) (Nat.le_of_ble_eq_true rfl) rfl ?_
  refine x_goto dX2_lendAll_97 (tgt := 20) rfl ?_
  refine x_ls (ls' := [(0, .ref o0), (1, .int (v1 + 1))]) [1, 0] rfl ?_
  exact hJ20 (v1 + 1) I L h
def lp_X2_lendAll_20 (o0 : Nat) (Q : MI → ML → Prop) : Nat → Int32 → MI → ML → Prop
  | 0, _, _, _ => False
  | n + 1, v1, I, L =>
    (((I (o0 + 16) 1) ≤ v1 → Q I L) ∧ (¬ (I (o0 + 16) 1) ≤ v1 → (wp_X4_at (o0 + 16) 72 L v1 (fun x5 => ((wp_X5_mark x5 (fun x6 => (((¬ x6 = 0 → (jn_X2_lendAll_94 I L v1 (fun x8 I9 L10 => (lp_X2_lendAll_20 o0 Q n x8 I9 L10)))) ∧ (x6 = 0 → (wp_X5_place x5 (fun x11 => ((wp_X2_lenderFor o0 I x11 (fun x12 => (((x12 = (-1) → (jn_X2_lendAll_94 I L v1 (fun x14 I15 L16 => (lp_X2_lendAll_20 o0 Q n x14 I15 L16)))) ∧ (¬ x12 = (-1) → (wp_X5_day x5 (fun x17 => ((wp_X5_of x17 0 1 x11 (fun x18 => ((wp_X4_put (o0 + 16) 72 I L v1 x18 (fun L19 => ((wp_X2_lend o0 I L19 x12 x11 (fun I20 L21 => ((jn_X2_lendAll_94 I20 L21 v1 (fun x22 I23 L24 => (lp_X2_lendAll_20 o0 Q n x22 I23 L24)))))))))))))))))))))))))))))))))
set_option maxRecDepth 20000 in
theorem lpt_X2_lendAll_20 {E : Ev} {l : Launch} {n : Nat} {R : MR} {o0 : Nat} (hn : 336 ≤ n) (hG : GRx R) (ho0 : isPlay o0) {I0 : MI} {L0 : ML} {Q : MI → ML → Prop} : ∀ (N : Nat) (v1 : Int32) (I : MI) (L : ML), lp_X2_lendAll_20 o0 Q N v1 I L → X E l rm_X2_lendAll yX2_lendAll cX2_lendAll 6 none noX (ZM E rm_X2_lendAll (Qv n R (V11 I0 L0 Q))) 20 [(0, .ref o0), (1, .int v1)] [] n I L R 0 0 := by
  intro N
  induction N with
  | zero => intro v1 I L h; exact False.elim h
  | succ N ih =>
    intro v1 I L h
    unfold lp_X2_lendAll_20 at h
    refine x_iload_n dX2_lendAll_20 rfl ?_
    refine x_aload_n dX2_lendAll_21 rfl ?_
    refine x_getr (j := o0 + 16) dX2_lendAll_22 fk_RX2_40 (Py_k ho0 hn 0 rfl) (Py_s0 ho0) (Py_r6 hG ho0) ?_
    refine x_geti dX2_lendAll_25 fk_RX2_86 (Rw_k (Py_wants ho0) hn 0 rfl) (Rw_s0 (Py_wants ho0)) ?_
    refine x_icmp_ge dX2_lendAll_28 (tgt := 100) rfl ⟨fun c4 => ?_, fun c4 => ?_⟩
    · have h := h.1 c4
      exact x_return dX2_lendAll_100 ⟨rfl, rfl, rfl, h⟩
    · have h := h.2 c4
      refine x_aload_n dX2_lendAll_31 rfl ?_
      refine x_getr (j := o0 + 16) dX2_lendAll_32 fk_RX2_40 (Py_k ho0 hn 0 rfl) (Py_s0 ho0) (Py_r6 hG ho0) ?_
      refine x_iload_n dX2_lendAll_35 rfl ?_
      refine x_cVl00 [.int v1] (mt_X4_at hn hG (Py_wants ho0) h) dX2_lendAll_36 lk_RX2_142 (Rw_k (Py_wants ho0) hn 0 rfl) (Rw_s0 (Py_wants ho0)) rfl rfl (Nat.le_of_ble_eq_true rfl) (Rf_of rfl) (fun x5 h => ?_)
      refine x_lstore_n (ls' := [(2, .long x5), (0, .ref o0), (1, .int v1)]) dX2_lendAll_39 (Nat.le_of_ble_eq_true rfl) rfl ?_
      refine x_lload_n dX2_lendAll_40 rfl ?_
      refine x_cSi00 [.long x5] (mt_X5_mark hn hG h) dX2_lendAll_41 lk_RX2_176 rfl rfl (Nat.le_of_ble_eq_true rfl) (Rf_of rfl) (fun x6 h => ?_)
      refine x_if_ne dX2_lendAll_44 (tgt := 94) rfl ⟨fun c7 => ?_, fun c7 => ?_⟩
      · have h := h.1 c7
        refine x_ls (ls' := [(0, .ref o0), (1, .int v1)]) [1, 2] rfl ?_
        refine jnt_X2_lendAll_94 hn hG ho0 (fun x8 I9 L10 h => ?_) h
        exact ih x8 I9 L10 h
      · have h := h.2 c7
        refine x_lload_n dX2_lendAll_47 rfl ?_
        refine x_cSi00 [.long x5] (mt_X5_place hn hG h) dX2_lendAll_48 lk_RX2_161 rfl rfl (Nat.le_of_ble_eq_true rfl) (Rf_of rfl) (fun x11 h => ?_)
        refine x_istore (ls' := [(4, .int x11), (2, .long x5), (0, .ref o0), (1, .int v1)]) dX2_lendAll_51 (Nat.le_of_ble_eq_true rfl) rfl ?_
        refine x_aload_n dX2_lendAll_53 rfl ?_
        refine x_iload dX2_lendAll_54 rfl ?_
        refine x_cVi00 [.int x11] (mt_X2_lenderFor hn hG ho0 h) dX2_lendAll_56 lk_RX2_193 (Py_k ho0 hn 0 rfl) (Py_s0 ho0) rfl rfl (Nat.le_of_ble_eq_true rfl) (Rf_of rfl) (fun x12 h => ?_)
        refine x_istore (ls' := [(5, .int x12), (4, .int x11), (2, .long x5), (0, .ref o0), (1, .int v1)]) dX2_lendAll_59 (Nat.le_of_ble_eq_true rfl) rfl ?_
        refine x_iload dX2_lendAll_61 rfl ?_
        refine x_iconst (v := (-1)) dX2_lendAll_63 ki_m1 ?_
        refine x_icmp_eq dX2_lendAll_64 (tgt := 94) rfl ⟨fun c13 => ?_, fun c13 => ?_⟩
        · have h := h.1 c13
          refine x_ls (ls' := [(0, .ref o0), (1, .int v1)]) [3, 4] rfl ?_
          refine jnt_X2_lendAll_94 hn hG ho0 (fun x14 I15 L16 h => ?_) h
          exact ih x14 I15 L16 h
        · have h := h.2 c13
          refine x_aload_n dX2_lendAll_67 rfl ?_
          refine x_getr (j := o0 + 16) dX2_lendAll_68 fk_RX2_40 (Py_k ho0 hn 0 rfl) (Py_s0 ho0) (Py_r6 hG ho0) ?_
          refine x_iload_n dX2_lendAll_71 rfl ?_
          refine x_lload_n dX2_lendAll_72 rfl ?_
          refine x_cSi00 [.long x5] (mt_X5_day hn hG h) dX2_lendAll_73 lk_RX2_146 rfl rfl (Nat.le_of_ble_eq_true rfl) (Rf_of rfl) (fun x17 h => ?_)
          refine x_iconst (v := 0) dX2_lendAll_76 ki_0 ?_
          refine x_iconst (v := 1) dX2_lendAll_77 ki_1 ?_
          refine x_iload dX2_lendAll_78 rfl ?_
          refine x_cSl00 [.int x17, .int 0, .int 1, .int x11] (mt_X5_of hn hG h) dX2_lendAll_80 lk_RX2_109 rfl rfl (Nat.le_of_ble_eq_true rfl) (Rf_of rfl) (fun x18 h => ?_)
          refine x_cVv01 [.int v1, .long x18] (mt_X4_put hn hG (Py_wants ho0) h) dX2_lendAll_83 lk_RX2_196 (Rw_k (Py_wants ho0) hn 0 rfl) (Rw_s0 (Py_wants ho0)) rfl rfl (Nat.le_of_ble_eq_true rfl) (Rf_of rfl) (fun L19 h => ?_)
          refine x_aload_n dX2_lendAll_86 rfl ?_
          refine x_iload dX2_lendAll_87 rfl ?_
          refine x_iload dX2_lendAll_89 rfl ?_
          refine x_cVv11 [.int x12, .int x11] (mt_X2_lend hn hG ho0 h) dX2_lendAll_91 lk_RX2_200 (Py_k ho0 hn 0 rfl) (Py_s0 ho0) rfl rfl (Nat.le_of_ble_eq_true rfl) (Rf_of rfl) (fun I20 L21 h => ?_)
          refine x_ls (ls' := [(0, .ref o0), (1, .int v1)]) [3, 4] rfl ?_
          refine jnt_X2_lendAll_94 hn hG ho0 (fun x22 I23 L24 h => ?_) h
          exact ih x22 I23 L24 h
def wp_X2_lendAll (o0 : Nat) (I : MI) (L : ML) (Q : MI → ML → Prop) : Prop :=
    (((I (o0 + 16) 1) = 0 → Q I L) ∧ (¬ (I (o0 + 16) 1) = 0 → (wp_X2_hasOneToLend o0 I (fun x2 => (((¬ x2 = 0 → (∃ N25, lp_X2_lendAll_20 o0 Q N25 0 I L)) ∧ (x2 = 0 → Q I L)))))))
set_option maxRecDepth 20000 in
theorem mt_X2_lendAll {E : Ev} {l : Launch} {n : Nat} {R : MR} {o0 : Nat} (hn : 336 ≤ n) (hG : GRx R) (ho0 : isPlay o0) {I : MI} {L : ML} {Q : MI → ML → Prop} (h : wp_X2_lendAll o0 I L Q) : MX E l rm_X2_lendAll yX2_lendAll cX2_lendAll 6 none [.ref o0] n I L R (Qv n R (V11 I L Q)) := by
  refine MX_of (ls := [(0, .ref o0)]) (by decide) (Nat.le_of_ble_eq_true rfl) rfl ?_
  unfold wp_X2_lendAll at h
  refine x_aload_n dX2_lendAll_0 rfl ?_
  refine x_getr (j := o0 + 16) dX2_lendAll_1 fk_RX2_40 (Py_k ho0 hn 0 rfl) (Py_s0 ho0) (Py_r6 hG ho0) ?_
  refine x_geti dX2_lendAll_4 fk_RX2_86 (Rw_k (Py_wants ho0) hn 0 rfl) (Rw_s0 (Py_wants ho0)) ?_
  refine x_if_eq dX2_lendAll_7 (tgt := 17) rfl ⟨fun c1 => ?_, fun c1 => ?_⟩
  · have h := h.1 c1
    exact x_return dX2_lendAll_17 ⟨rfl, rfl, rfl, h⟩
  · have h := h.2 c1
    refine x_aload_n dX2_lendAll_10 rfl ?_
    refine x_cVi00 [] (mt_X2_hasOneToLend hn hG ho0 h) dX2_lendAll_11 lk_RX2_189 (Py_k ho0 hn 0 rfl) (Py_s0 ho0) rfl rfl (Nat.le_of_ble_eq_true rfl) (Rf_of rfl) (fun x2 h => ?_)
    refine x_if_ne dX2_lendAll_14 (tgt := 18) rfl ⟨fun c3 => ?_, fun c3 => ?_⟩
    · have h := h.1 c3
      refine x_iconst (v := 0) dX2_lendAll_18 ki_0 ?_
      refine x_istore_n (ls' := [(1, .int 0), (0, .ref o0)]) dX2_lendAll_19 (Nat.le_of_ble_eq_true rfl) rfl ?_
      refine x_ls (ls' := [(0, .ref o0), (1, .int 0)]) [1, 0] rfl ?_
      obtain ⟨N25, h⟩ := h
      exact lpt_X2_lendAll_20 hn hG ho0  N25 0 I L h
    · have h := h.2 c3
      exact x_return dX2_lendAll_17 ⟨rfl, rfl, rfl, h⟩
abbrev rm_X2_goBy : Room := { frames := 4, cells := 0, slots := 0, locals := 117 }
def lp_X2_goBy_12 (o0 : Nat) (kf85 : MI → ML → Prop) (kf47 : MI → ML → Prop) : Nat → Int32 → MI → ML → Prop
  | 0, _, _, _ => False
  | n + 1, v1, I, L =>
    ((184 ≤ v1 → kf85 I L) ∧ (¬ 184 ≤ v1 → (((I (o0 + 14) 1) = 0 → kf85 I L) ∧ (¬ (I (o0 + 14) 1) = 0 → (wp_X4_at (o0 + 14) 184 L 0 (fun x4 => ((wp_X5_day x4 (fun x5 => (((x5 ≤ (I o0 9) → (wp_X4_at (o0 + 14) 184 L 0 (fun x7 => ((wp_X4_removeAt (o0 + 14) 184 I L 0 (fun I8 L9 => ((wp_X5_mark x7 (fun x10 => ((wp_X5_place x7 (fun x11 => ((wp_X2_come o0 I8 L9 x10 x11 (fun I12 L13 => ((lp_X2_goBy_12 o0 kf85 kf47 n (v1 + 1) I12 L13))))))))))))))))) ∧ (¬ x5 ≤ (I o0 9) → kf47 I L))))))))))))
set_option maxRecDepth 20000 in
theorem lpt_X2_goBy_12 {E : Ev} {l : Launch} {n : Nat} {R : MR} {o0 : Nat} (hn : 336 ≤ n) (hG : GRx R) (ho0 : isPlay o0) {I0 : MI} {L0 : ML} {Q : MI → ML → Prop} {kf85 : MI → ML → Prop} {kf47 : MI → ML → Prop}
    (hK85 : ∀ (I : MI) (L : ML), kf85 I L → X E l rm_X2_goBy yX2_goBy cX2_goBy 4 none noX (ZM E rm_X2_goBy (Qv n R (V11 I0 L0 Q))) 85 [(0, .ref o0)] [] n I L R 0 0)
    (hK47 : ∀ (I : MI) (L : ML), kf47 I L → X E l rm_X2_goBy yX2_goBy cX2_goBy 4 none noX (ZM E rm_X2_goBy (Qv n R (V11 I0 L0 Q))) 47 [(0, .ref o0)] [] n I L R 0 0) : ∀ (N : Nat) (v1 : Int32) (I : MI) (L : ML), lp_X2_goBy_12 o0 kf85 kf47 N v1 I L → X E l rm_X2_goBy yX2_goBy cX2_goBy 4 none noX (ZM E rm_X2_goBy (Qv n R (V11 I0 L0 Q))) 12 [(0, .ref o0), (1, .int v1)] [] n I L R 0 0 := by
  intro N
  induction N with
  | zero => intro v1 I L h; exact False.elim h
  | succ N ih =>
    intro v1 I L h
    unfold lp_X2_goBy_12 at h
    refine x_iload_n dX2_goBy_12 rfl ?_
    refine x_sipush (v := 184) dX2_goBy_13 ks_184 ?_
    refine x_icmp_ge dX2_goBy_16 (tgt := 85) rfl ⟨fun c2 => ?_, fun c2 => ?_⟩
    · have h := h.1 c2
      refine x_ls (ls' := [(0, .ref o0)]) [0] rfl ?_
      exact hK85 I L h
    · have h := h.2 c2
      refine x_aload_n dX2_goBy_19 rfl ?_
      refine x_getr (j := o0 + 14) dX2_goBy_20 fk_RX2_36 (Py_k ho0 hn 0 rfl) (Py_s0 ho0) (Py_r5 hG ho0) ?_
      refine x_geti dX2_goBy_23 fk_RX2_86 (Rw_k (Py_ways ho0) hn 0 rfl) (Rw_s0 (Py_ways ho0)) ?_
      refine x_if_eq dX2_goBy_26 (tgt := 85) rfl ⟨fun c3 => ?_, fun c3 => ?_⟩
      · have h := h.1 c3
        refine x_ls (ls' := [(0, .ref o0)]) [0] rfl ?_
        exact hK85 I L h
      · have h := h.2 c3
        refine x_aload_n dX2_goBy_29 rfl ?_
        refine x_getr (j := o0 + 14) dX2_goBy_30 fk_RX2_36 (Py_k ho0 hn 0 rfl) (Py_s0 ho0) (Py_r5 hG ho0) ?_
        refine x_iconst (v := 0) dX2_goBy_33 ki_0 ?_
        refine x_cVl00 [.int 0] (mt_X4_at hn hG (Py_ways ho0) h) dX2_goBy_34 lk_RX2_142 (Rw_k (Py_ways ho0) hn 0 rfl) (Rw_s0 (Py_ways ho0)) rfl rfl (Nat.le_of_ble_eq_true rfl) (Rf_of rfl) (fun x4 h => ?_)
        refine x_cSi00 [.long x4] (mt_X5_day hn hG h) dX2_goBy_37 lk_RX2_146 rfl rfl (Nat.le_of_ble_eq_true rfl) (Rf_of rfl) (fun x5 h => ?_)
        refine x_aload_n dX2_goBy_40 rfl ?_
        refine x_geti dX2_goBy_41 fk_RX2_49 (Py_k ho0 hn 0 rfl) (Py_s0 ho0) ?_
        refine x_icmp_le dX2_goBy_44 (tgt := 50) rfl ⟨fun c6 => ?_, fun c6 => ?_⟩
        · have h := h.1 c6
          refine x_aload_n dX2_goBy_50 rfl ?_
          refine x_getr (j := o0 + 14) dX2_goBy_51 fk_RX2_36 (Py_k ho0 hn 0 rfl) (Py_s0 ho0) (Py_r5 hG ho0) ?_
          refine x_iconst (v := 0) dX2_goBy_54 ki_0 ?_
          refine x_cVl00 [.int 0] (mt_X4_at hn hG (Py_ways ho0) h) dX2_goBy_55 lk_RX2_142 (Rw_k (Py_ways ho0) hn 0 rfl) (Rw_s0 (Py_ways ho0)) rfl rfl (Nat.le_of_ble_eq_true rfl) (Rf_of rfl) (fun x7 h => ?_)
          refine x_lstore_n (ls' := [(2, .long x7), (0, .ref o0), (1, .int v1)]) dX2_goBy_58 (Nat.le_of_ble_eq_true rfl) rfl ?_
          refine x_aload_n dX2_goBy_59 rfl ?_
          refine x_getr (j := o0 + 14) dX2_goBy_60 fk_RX2_36 (Py_k ho0 hn 0 rfl) (Py_s0 ho0) (Py_r5 hG ho0) ?_
          refine x_iconst (v := 0) dX2_goBy_63 ki_0 ?_
          refine x_cVv11 [.int 0] (mt_X4_removeAt hn hG (Py_ways ho0) h) dX2_goBy_64 lk_RX2_149 (Rw_k (Py_ways ho0) hn 0 rfl) (Rw_s0 (Py_ways ho0)) rfl rfl (Nat.le_of_ble_eq_true rfl) (Rf_of rfl) (fun I8 L9 h => ?_)
          refine x_aload_n dX2_goBy_67 rfl ?_
          refine x_lload_n dX2_goBy_68 rfl ?_
          refine x_cSi00 [.long x7] (mt_X5_mark hn hG h) dX2_goBy_69 lk_RX2_176 rfl rfl (Nat.le_of_ble_eq_true rfl) (Rf_of rfl) (fun x10 h => ?_)
          refine x_lload_n dX2_goBy_72 rfl ?_
          refine x_cSi00 [.long x7] (mt_X5_place hn hG h) dX2_goBy_73 lk_RX2_161 rfl rfl (Nat.le_of_ble_eq_true rfl) (Rf_of rfl) (fun x11 h => ?_)
          refine x_cVv11 [.int x10, .int x11] (mt_X2_come hn hG ho0 h) dX2_goBy_76 lk_RX2_179 (Py_k ho0 hn 0 rfl) (Py_s0 ho0) rfl rfl (Nat.le_of_ble_eq_true rfl) (Rf_of rfl) (fun I12 L13 h => ?_)
          refine x_iinc (v := v1 + 1) (ls' := [(1, .int (v1 + 1)), (2, .long x7), (0, .ref o0)]) dX2_goBy_79 rfl (congrArg (_ + ·) ki_1) (Nat.le_of_ble_eq_true rfl) rfl ?_
          refine x_goto dX2_goBy_82 (tgt := 12) rfl ?_
          refine x_ls (ls' := [(0, .ref o0), (1, .int (v1 + 1))]) [2, 0] rfl ?_
          exact ih (v1 + 1) I12 L13 h
        · have h := h.2 c6
          refine x_ls (ls' := [(0, .ref o0)]) [0] rfl ?_
          exact hK47 I L h
def wp_X2_goBy (o0 : Nat) (I : MI) (L : ML) (Q : MI → ML → Prop) : Prop :=
    (∀ I1, I1 = u2 I o0 9 ((I o0 9) + 1) → (∃ N14, lp_X2_goBy_12 o0 (fun I15 L16 => (wp_X2_lendAll o0 I15 L16 (fun I17 L18 => (Q I17 L18)))) (fun I19 L20 => (wp_X2_lendAll o0 I19 L20 (fun I21 L22 => (Q I21 L22)))) N14 0 I1 L))
set_option maxRecDepth 20000 in
theorem mt_X2_goBy {E : Ev} {l : Launch} {n : Nat} {R : MR} {o0 : Nat} (hn : 336 ≤ n) (hG : GRx R) (ho0 : isPlay o0) {I : MI} {L : ML} {Q : MI → ML → Prop} (h : wp_X2_goBy o0 I L Q) : MX E l rm_X2_goBy yX2_goBy cX2_goBy 4 none [.ref o0] n I L R (Qv n R (V11 I L Q)) := by
  refine MX_of (ls := [(0, .ref o0)]) (by decide) (Nat.le_of_ble_eq_true rfl) rfl ?_
  unfold wp_X2_goBy at h
  refine x_aload_n dX2_goBy_0 rfl ?_
  refine x_dup dX2_goBy_1 rfl ?_
  refine x_geti dX2_goBy_2 fk_RX2_49 (Py_k ho0 hn 0 rfl) (Py_s0 ho0) ?_
  refine x_iconst (v := 1) dX2_goBy_5 ki_1 ?_
  refine x_iadd dX2_goBy_6 ?_
  refine x_puti dX2_goBy_7 fk_RX2_49 fw_2_9 (vp_nar_int _) rfl (Py_k ho0 hn 0 rfl) (Py_s0 ho0) (fun I1 eI1 => ?_)
  have h := h I1 eI1
  refine x_iconst (v := 0) dX2_goBy_10 ki_0 ?_
  refine x_istore_n (ls' := [(1, .int 0), (0, .ref o0)]) dX2_goBy_11 (Nat.le_of_ble_eq_true rfl) rfl ?_
  refine x_ls (ls' := [(0, .ref o0), (1, .int 0)]) [1, 0] rfl ?_
  obtain ⟨N14, h⟩ := h
  refine lpt_X2_goBy_12 hn hG ho0 (fun I15 L16 h => ?_) (fun I19 L20 h => ?_) N14 0 I1 L h
  · refine x_aload_n dX2_goBy_85 rfl ?_
    refine x_cVv11 [] (mt_X2_lendAll hn hG ho0 h) dX2_goBy_86 lk_RX2_183 (Py_k ho0 hn 0 rfl) (Py_s0 ho0) rfl rfl (Nat.le_of_ble_eq_true rfl) (Rf_of rfl) (fun I17 L18 h => ?_)
    exact x_return dX2_goBy_89 ⟨rfl, rfl, rfl, h⟩
  · refine x_goto dX2_goBy_47 (tgt := 85) rfl ?_
    refine x_aload_n dX2_goBy_85 rfl ?_
    refine x_cVv11 [] (mt_X2_lendAll hn hG ho0 h) dX2_goBy_86 lk_RX2_183 (Py_k ho0 hn 0 rfl) (Py_s0 ho0) rfl rfl (Nat.le_of_ble_eq_true rfl) (Rf_of rfl) (fun I21 L22 h => ?_)
    exact x_return dX2_goBy_89 ⟨rfl, rfl, rfl, h⟩
abbrev rm_X2_drawDays : Room := { frames := 5, cells := 0, slots := 0, locals := 140 }
def jn_X2_drawDays_107 (I : MI) (L : ML) (v4 : Int32) (v7 : Int32) (kj35 : Int32 → Int32 → MI → ML → Prop) : Prop :=
    kj35 v4 (v7 + 1) I L
set_option maxRecDepth 20000 in
theorem jnt_X2_drawDays_107 {E : Ev} {l : Launch} {n : Nat} {R : MR} {o0 : Nat} (hn : 336 ≤ n) (hG : GRx R) (ho0 : isPlay o0) {I0 : MI} {L0 : ML} {Q : Int32 → MI → ML → Prop} {I : MI} {L : ML} {v1 : Int32} {v3 : Int32} {v4 : Int32} {v5 : Int32} {v6 : Int32} {v7 : Int32} {kj35 : Int32 → Int32 → MI → ML → Prop}
    (hJ35 : ∀ (v4 : Int32) (v7 : Int32) (I : MI) (L : ML), kj35 v4 v7 I L → X E l rm_X2_drawDays yX2_drawDays cX2_drawDays 9 (some .int) noX (ZM E rm_X2_drawDays (Qi n R (P11 I0 L0 Q))) 35 [(0, .ref o0), (1, .int v1), (3, .int v3), (4, .int v4), (5, .int v5), (6, .int v6), (7, .int v7)] [] n I L R 0 0) (h : jn_X2_drawDays_107 I L v4 v7 kj35) : X E l rm_X2_drawDays yX2_drawDays cX2_drawDays 9 (some .int) noX (ZM E rm_X2_drawDays (Qi n R (P11 I0 L0 Q))) 107 [(0, .ref o0), (1, .int v1), (3, .int v3), (4, .int v4), (5, .int v5), (6, .int v6), (7, .int v7)] [] n I L R 0 0 := by
  unfold jn_X2_drawDays_107 at h
  refine x_iinc (v := v7 + 1) (ls' := [(7, .int (v7 + 1)), (0, .ref o0), (1, .int v1), (3, .int v3), (4, .int v4), (5, .int v5), (6, .int v6)]) dX2_drawDays_107 rfl (congrArg (_ + ·) ki_1) (Nat.le_of_ble_eq_true rfl) rfl ?_
  refine x_goto dX2_drawDays_110 (tgt := 35) rfl ?_
  refine x_ls (ls' := [(0, .ref o0), (1, .int v1), (3, .int v3), (4, .int v4), (5, .int v5), (6, .int v6), (7, .int (v7 + 1))]) [1, 2, 3, 4, 5, 6, 0] rfl ?_
  exact hJ35 v4 (v7 + 1) I L h
def lp_X2_drawDays_35 (o0 : Nat) (v6 : Int32) (kf113 : Int32 → MI → ML → Prop) : Nat → Int32 → Int32 → MI → ML → Prop
  | 0, _, _, _, _ => False
  | n + 1, v4, v7, I, L =>
    (((I (o0 + 1) 0) ≤ v7 → kf113 v4 I L) ∧ (¬ (I (o0 + 1) 0) ≤ v7 → (wp_X9_placeOf v6 v7 (fun x4 => ((vp_in (x4 &&& 15) 16 ∧ (((I (o0 + 8) (ix (x4 &&& 15))) ≤ ((usr ((v4 * 1103515245) + 12345) 8) - (usr ((v4 * 1103515245) + 12345) 8) / 12 * 12) → (jn_X2_drawDays_107 I L ((v4 * 1103515245) + 12345) v7 (fun x7 x8 I9 L10 => (lp_X2_drawDays_35 o0 v6 kf113 n x7 x8 I9 L10)))) ∧ (¬ (I (o0 + 8) (ix (x4 &&& 15))) ≤ ((usr ((v4 * 1103515245) + 12345) 8) - (usr ((v4 * 1103515245) + 12345) 8) / 12 * 12) → (wp_X2_canBreak o0 I (x4 &&& 15) (fun x11 => (((x11 = 0 → (jn_X2_drawDays_107 I L ((v4 * 1103515245) + 12345) v7 (fun x13 x14 I15 L16 => (lp_X2_drawDays_35 o0 v6 kf113 n x13 x14 I15 L16)))) ∧ (¬ x11 = 0 → (wp_X2_breakPiece o0 I L (x4 &&& 15) (fun x17 I18 L19 => ((jn_X2_drawDays_107 I18 L19 ((v4 * 1103515245) + 12345) v7 (fun x20 x21 I22 L23 => (lp_X2_drawDays_35 o0 v6 kf113 n x20 x21 I22 L23)))))))))))))))))))
set_option maxRecDepth 20000 in
theorem lpt_X2_drawDays_35 {E : Ev} {l : Launch} {n : Nat} {R : MR} {o0 : Nat} (hn : 336 ≤ n) (hG : GRx R) (ho0 : isPlay o0) {I0 : MI} {L0 : ML} {Q : Int32 → MI → ML → Prop} {v1 : Int32} {v3 : Int32} {v5 : Int32} {v6 : Int32} {kf113 : Int32 → MI → ML → Prop}
    (hK113 : ∀ (v4 : Int32) (I : MI) (L : ML), kf113 v4 I L → X E l rm_X2_drawDays yX2_drawDays cX2_drawDays 9 (some .int) noX (ZM E rm_X2_drawDays (Qi n R (P11 I0 L0 Q))) 113 [(0, .ref o0), (1, .int v1), (3, .int v3), (4, .int v4), (5, .int v5), (6, .int v6)] [] n I L R 0 0) : ∀ (N : Nat) (v4 : Int32) (v7 : Int32) (I : MI) (L : ML), lp_X2_drawDays_35 o0 v6 kf113 N v4 v7 I L → X E l rm_X2_drawDays yX2_drawDays cX2_drawDays 9 (some .int) noX (ZM E rm_X2_drawDays (Qi n R (P11 I0 L0 Q))) 35 [(0, .ref o0), (1, .int v1), (3, .int v3), (4, .int v4), (5, .int v5), (6, .int v6), (7, .int v7)] [] n I L R 0 0 := by
  intro N
  induction N with
  | zero => intro v4 v7 I L h; exact False.elim h
  | succ N ih =>
    intro v4 v7 I L h
    unfold lp_X2_drawDays_35 at h
    refine x_iload dX2_drawDays_35 rfl ?_
    refine x_aload_n dX2_drawDays_37 rfl ?_
    refine x_getr (j := o0 + 1) dX2_drawDays_38 fk_RX2_12 (Py_k ho0 hn 0 rfl) (Py_s0 ho0) (Py_r0 hG ho0) ?_
    refine x_geti dX2_drawDays_41 fk_RX2_212 (Pn_k (Py_plan ho0) hn 0 rfl) (Pn_s0 (Py_plan ho0)) ?_
    refine x_icmp_ge dX2_drawDays_44 (tgt := 113) rfl ⟨fun c3 => ?_, fun c3 => ?_⟩
    · have h := h.1 c3
      refine x_ls (ls' := [(0, .ref o0), (1, .int v1), (3, .int v3), (4, .int v4), (5, .int v5), (6, .int v6)]) [0, 1, 2, 3, 4, 5] rfl ?_
      exact hK113 v4 I L h
    · have h := h.2 c3
      refine x_iload dX2_drawDays_47 rfl ?_
      refine x_ldc (v := 1103515245) dX2_drawDays_49 kc_RX2_215 ?_
      refine x_imul dX2_drawDays_51 ?_
      refine x_sipush (v := 12345) dX2_drawDays_52 ks_12345 ?_
      refine x_iadd dX2_drawDays_55 ?_
      refine x_istore (ls' := [(4, .int ((v4 * 1103515245) + 12345)), (0, .ref o0), (1, .int v1), (3, .int v3), (5, .int v5), (6, .int v6), (7, .int v7)]) dX2_drawDays_56 (Nat.le_of_ble_eq_true rfl) rfl ?_
      refine x_iload dX2_drawDays_58 rfl ?_
      refine x_iload dX2_drawDays_60 rfl ?_
      refine x_cNi00 [.int v6, .int v7] (mt_X9_placeOf hn hG h) dX2_drawDays_62 lk_RX2_209 rfl rfl (Nat.le_of_ble_eq_true rfl) (Rf_of rfl) (fun x4 h => ?_)
      refine x_bipush (v := 15) dX2_drawDays_65 kb_15 ?_
      refine x_iand dX2_drawDays_67 ?_
      refine x_istore (ls' := [(8, .int (x4 &&& 15)), (4, .int ((v4 * 1103515245) + 12345)), (0, .ref o0), (1, .int v1), (3, .int v3), (5, .int v5), (6, .int v6), (7, .int v7)]) dX2_drawDays_68 (Nat.le_of_ble_eq_true rfl) rfl ?_
      refine x_iload dX2_drawDays_70 rfl ?_
      refine x_bipush (v := 8) dX2_drawDays_72 kb_8 ?_
      refine x_iushr dX2_drawDays_74 ?_
      refine x_bipush (v := 12) dX2_drawDays_75 kb_12 ?_
      refine x_irem dX2_drawDays_77 (by decide) ?_
      refine x_aload_n dX2_drawDays_78 rfl ?_
      refine x_getr (j := o0 + 1) dX2_drawDays_79 fk_RX2_12 (Py_k ho0 hn 0 rfl) (Py_s0 ho0) (Py_r0 hG ho0) ?_
      refine x_getr (j := o0 + 8) dX2_drawDays_82 fk_RX2_216 (Pn_k (Py_plan ho0) hn 0 rfl) (Pn_s0 (Py_plan ho0)) (Pn_r11 hG (Py_plan ho0)) ?_
      refine x_iload dX2_drawDays_85 rfl ?_
      obtain ⟨b5, h⟩ := h
      refine x_iaload dX2_drawDays_87 (Pn_k (Py_plan ho0) hn 7 rfl) (Pn_s7 (Py_plan ho0)) b5 ?_
      refine x_icmp_ge dX2_drawDays_88 (tgt := 107) rfl ⟨fun c6 => ?_, fun c6 => ?_⟩
      · have h := h.1 c6
        refine x_ls (ls' := [(0, .ref o0), (1, .int v1), (3, .int v3), (4, .int ((v4 * 1103515245) + 12345)), (5, .int v5), (6, .int v6), (7, .int v7)]) [2, 3, 4, 1, 5, 6, 7] rfl ?_
        refine jnt_X2_drawDays_107 hn hG ho0 (fun x7 x8 I9 L10 h => ?_) h
        exact ih x7 x8 I9 L10 h
      · have h := h.2 c6
        refine x_aload_n dX2_drawDays_91 rfl ?_
        refine x_iload dX2_drawDays_92 rfl ?_
        refine x_cVi00 [.int (x4 &&& 15)] (mt_X2_canBreak hn hG ho0 h) dX2_drawDays_94 lk_RX2_219 (Py_k ho0 hn 0 rfl) (Py_s0 ho0) rfl rfl (Nat.le_of_ble_eq_true rfl) (Rf_of rfl) (fun x11 h => ?_)
        refine x_if_eq dX2_drawDays_97 (tgt := 107) rfl ⟨fun c12 => ?_, fun c12 => ?_⟩
        · have h := h.1 c12
          refine x_ls (ls' := [(0, .ref o0), (1, .int v1), (3, .int v3), (4, .int ((v4 * 1103515245) + 12345)), (5, .int v5), (6, .int v6), (7, .int v7)]) [2, 3, 4, 1, 5, 6, 7] rfl ?_
          refine jnt_X2_drawDays_107 hn hG ho0 (fun x13 x14 I15 L16 h => ?_) h
          exact ih x13 x14 I15 L16 h
        · have h := h.2 c12
          refine x_aload_n dX2_drawDays_100 rfl ?_
          refine x_iload dX2_drawDays_101 rfl ?_
          refine x_cVi11 [.int (x4 &&& 15)] (mt_X2_breakPiece hn hG ho0 h) dX2_drawDays_103 lk_RX2_223 (Py_k ho0 hn 0 rfl) (Py_s0 ho0) rfl rfl (Nat.le_of_ble_eq_true rfl) (Rf_of rfl) (fun x17 I18 L19 h => ?_)
          refine x_pop dX2_drawDays_106 rfl ?_
          refine x_ls (ls' := [(0, .ref o0), (1, .int v1), (3, .int v3), (4, .int ((v4 * 1103515245) + 12345)), (5, .int v5), (6, .int v6), (7, .int v7)]) [2, 3, 4, 1, 5, 6, 7] rfl ?_
          refine jnt_X2_drawDays_107 hn hG ho0 (fun x20 x21 I22 L23 h => ?_) h
          exact ih x20 x21 I22 L23 h
def lp_X2_drawDays_20 (o0 : Nat) (kf119 : Int32 → MI → ML → Prop) : Nat → Int32 → Int32 → MI → ML → Prop
  | 0, _, _, _, _ => False
  | n + 1, v4, v6, I, L =>
    (((I (o0 + 1) 1) ≤ v6 → kf119 v4 I L) ∧ (¬ (I (o0 + 1) 1) ≤ v6 → (∃ N24, lp_X2_drawDays_35 o0 v6 (fun x25 I26 L27 => (lp_X2_drawDays_20 o0 kf119 n x25 (v6 + 1) I26 L27)) N24 v4 0 I L)))
set_option maxRecDepth 20000 in
theorem lpt_X2_drawDays_20 {E : Ev} {l : Launch} {n : Nat} {R : MR} {o0 : Nat} (hn : 336 ≤ n) (hG : GRx R) (ho0 : isPlay o0) {I0 : MI} {L0 : ML} {Q : Int32 → MI → ML → Prop} {v1 : Int32} {v3 : Int32} {v5 : Int32} {kf119 : Int32 → MI → ML → Prop}
    (hK119 : ∀ (v4 : Int32) (I : MI) (L : ML), kf119 v4 I L → X E l rm_X2_drawDays yX2_drawDays cX2_drawDays 9 (some .int) noX (ZM E rm_X2_drawDays (Qi n R (P11 I0 L0 Q))) 119 [(0, .ref o0), (1, .int v1), (3, .int v3), (4, .int v4), (5, .int v5)] [] n I L R 0 0) : ∀ (N : Nat) (v4 : Int32) (v6 : Int32) (I : MI) (L : ML), lp_X2_drawDays_20 o0 kf119 N v4 v6 I L → X E l rm_X2_drawDays yX2_drawDays cX2_drawDays 9 (some .int) noX (ZM E rm_X2_drawDays (Qi n R (P11 I0 L0 Q))) 20 [(0, .ref o0), (1, .int v1), (3, .int v3), (4, .int v4), (5, .int v5), (6, .int v6)] [] n I L R 0 0 := by
  intro N
  induction N with
  | zero => intro v4 v6 I L h; exact False.elim h
  | succ N ih =>
    intro v4 v6 I L h
    unfold lp_X2_drawDays_20 at h
    refine x_iload dX2_drawDays_20 rfl ?_
    refine x_aload_n dX2_drawDays_22 rfl ?_
    refine x_getr (j := o0 + 1) dX2_drawDays_23 fk_RX2_12 (Py_k ho0 hn 0 rfl) (Py_s0 ho0) (Py_r0 hG ho0) ?_
    refine x_geti dX2_drawDays_26 fk_RX2_206 (Pn_k (Py_plan ho0) hn 0 rfl) (Pn_s0 (Py_plan ho0)) ?_
    refine x_icmp_ge dX2_drawDays_29 (tgt := 119) rfl ⟨fun c2 => ?_, fun c2 => ?_⟩
    · have h := h.1 c2
      refine x_ls (ls' := [(0, .ref o0), (1, .int v1), (3, .int v3), (4, .int v4), (5, .int v5)]) [0, 1, 2, 3, 4] rfl ?_
      exact hK119 v4 I L h
    · have h := h.2 c2
      refine x_iconst (v := 0) dX2_drawDays_32 ki_0 ?_
      refine x_istore (ls' := [(7, .int 0), (0, .ref o0), (1, .int v1), (3, .int v3), (4, .int v4), (5, .int v5), (6, .int v6)]) dX2_drawDays_33 (Nat.le_of_ble_eq_true rfl) rfl ?_
      refine x_ls (ls' := [(0, .ref o0), (1, .int v1), (3, .int v3), (4, .int v4), (5, .int v5), (6, .int v6), (7, .int 0)]) [1, 2, 3, 4, 5, 6, 0] rfl ?_
      obtain ⟨N24, h⟩ := h
      refine lpt_X2_drawDays_35 hn hG ho0 (fun x25 I26 L27 h => ?_) N24 v4 0 I L h
      refine x_iinc (v := v6 + 1) (ls' := [(6, .int (v6 + 1)), (0, .ref o0), (1, .int v1), (3, .int v3), (4, .int x25), (5, .int v5)]) dX2_drawDays_113 rfl (congrArg (_ + ·) ki_1) (Nat.le_of_ble_eq_true rfl) rfl ?_
      refine x_goto dX2_drawDays_116 (tgt := 20) rfl ?_
      refine x_ls (ls' := [(0, .ref o0), (1, .int v1), (3, .int v3), (4, .int x25), (5, .int v5), (6, .int (v6 + 1))]) [1, 2, 3, 4, 5, 0] rfl ?_
      exact ih x25 (v6 + 1) I26 L27 h
def lp_X2_drawDays_11 (o0 : Nat) (v1 : Int32) (kf129 : MI → ML → Prop) : Nat → Int32 → Int32 → MI → ML → Prop
  | 0, _, _, _, _ => False
  | n + 1, v4, v5, I, L =>
    ((v1 ≤ v5 → kf129 I L) ∧ (¬ v1 ≤ v5 → (∃ N28, lp_X2_drawDays_20 o0 (fun x29 I30 L31 => (wp_X2_goBy o0 I30 L31 (fun I32 L33 => ((lp_X2_drawDays_11 o0 v1 kf129 n x29 (v5 + 1) I32 L33))))) N28 v4 0 I L)))
set_option maxRecDepth 20000 in
theorem lpt_X2_drawDays_11 {E : Ev} {l : Launch} {n : Nat} {R : MR} {o0 : Nat} (hn : 336 ≤ n) (hG : GRx R) (ho0 : isPlay o0) {I0 : MI} {L0 : ML} {Q : Int32 → MI → ML → Prop} {v1 : Int32} {v3 : Int32} {kf129 : MI → ML → Prop}
    (hK129 : ∀ (I : MI) (L : ML), kf129 I L → X E l rm_X2_drawDays yX2_drawDays cX2_drawDays 9 (some .int) noX (ZM E rm_X2_drawDays (Qi n R (P11 I0 L0 Q))) 129 [(0, .ref o0), (3, .int v3)] [] n I L R 0 0) : ∀ (N : Nat) (v4 : Int32) (v5 : Int32) (I : MI) (L : ML), lp_X2_drawDays_11 o0 v1 kf129 N v4 v5 I L → X E l rm_X2_drawDays yX2_drawDays cX2_drawDays 9 (some .int) noX (ZM E rm_X2_drawDays (Qi n R (P11 I0 L0 Q))) 11 [(0, .ref o0), (1, .int v1), (3, .int v3), (4, .int v4), (5, .int v5)] [] n I L R 0 0 := by
  intro N
  induction N with
  | zero => intro v4 v5 I L h; exact False.elim h
  | succ N ih =>
    intro v4 v5 I L h
    unfold lp_X2_drawDays_11 at h
    refine x_iload dX2_drawDays_11 rfl ?_
    refine x_iload_n dX2_drawDays_13 rfl ?_
    refine x_icmp_ge dX2_drawDays_14 (tgt := 129) rfl ⟨fun c1 => ?_, fun c1 => ?_⟩
    · have h := h.1 c1
      refine x_ls (ls' := [(0, .ref o0), (3, .int v3)]) [0, 2] rfl ?_
      exact hK129 I L h
    · have h := h.2 c1
      refine x_iconst (v := 0) dX2_drawDays_17 ki_0 ?_
      refine x_istore (ls' := [(6, .int 0), (0, .ref o0), (1, .int v1), (3, .int v3), (4, .int v4), (5, .int v5)]) dX2_drawDays_18 (Nat.le_of_ble_eq_true rfl) rfl ?_
      refine x_ls (ls' := [(0, .ref o0), (1, .int v1), (3, .int v3), (4, .int v4), (5, .int v5), (6, .int 0)]) [1, 2, 3, 4, 5, 0] rfl ?_
      obtain ⟨N28, h⟩ := h
      refine lpt_X2_drawDays_20 hn hG ho0 (fun x29 I30 L31 h => ?_) N28 v4 0 I L h
      refine x_aload_n dX2_drawDays_119 rfl ?_
      refine x_cVv11 [] (mt_X2_goBy hn hG ho0 h) dX2_drawDays_120 lk_RX2_226 (Py_k ho0 hn 0 rfl) (Py_s0 ho0) rfl rfl (Nat.le_of_ble_eq_true rfl) (Rf_of rfl) (fun I32 L33 h => ?_)
      refine x_iinc (v := v5 + 1) (ls' := [(5, .int (v5 + 1)), (0, .ref o0), (1, .int v1), (3, .int v3), (4, .int x29)]) dX2_drawDays_123 rfl (congrArg (_ + ·) ki_1) (Nat.le_of_ble_eq_true rfl) rfl ?_
      refine x_goto dX2_drawDays_126 (tgt := 11) rfl ?_
      refine x_ls (ls' := [(0, .ref o0), (1, .int v1), (3, .int v3), (4, .int x29), (5, .int (v5 + 1))]) [1, 2, 3, 4, 0] rfl ?_
      exact ih x29 (v5 + 1) I32 L33 h
def wp_X2_drawDays (o0 : Nat) (I : MI) (L : ML) (v1 : Int32) (v2 : Int32) (Q : Int32 → MI → ML → Prop) : Prop :=
    (∃ N34, lp_X2_drawDays_11 o0 v1 (fun I35 L36 => Q ((I35 o0 12) - (I o0 12)) I35 L36) N34 v2 0 I L)
set_option maxRecDepth 20000 in
theorem mt_X2_drawDays {E : Ev} {l : Launch} {n : Nat} {R : MR} {o0 : Nat} (hn : 336 ≤ n) (hG : GRx R) (ho0 : isPlay o0) {I : MI} {L : ML} {v1 : Int32} {v2 : Int32} {Q : Int32 → MI → ML → Prop} (h : wp_X2_drawDays o0 I L v1 v2 Q) : MX E l rm_X2_drawDays yX2_drawDays cX2_drawDays 9 (some .int) [.ref o0, .int v1, .int v2] n I L R (Qi n R (P11 I L Q)) := by
  refine MX_of (ls := [(0, .ref o0), (1, .int v1), (2, .int v2)]) (by decide) (Nat.le_of_ble_eq_true rfl) rfl ?_
  unfold wp_X2_drawDays at h
  refine x_aload_n dX2_drawDays_0 rfl ?_
  refine x_geti dX2_drawDays_1 fk_RX2_59 (Py_k ho0 hn 0 rfl) (Py_s0 ho0) ?_
  refine x_istore_n (ls' := [(3, .int (I o0 12)), (0, .ref o0), (1, .int v1), (2, .int v2)]) dX2_drawDays_4 (Nat.le_of_ble_eq_true rfl) rfl ?_
  refine x_iload_n dX2_drawDays_5 rfl ?_
  refine x_istore (ls' := [(4, .int v2), (3, .int (I o0 12)), (0, .ref o0), (1, .int v1), (2, .int v2)]) dX2_drawDays_6 (Nat.le_of_ble_eq_true rfl) rfl ?_
  refine x_iconst (v := 0) dX2_drawDays_8 ki_0 ?_
  refine x_istore (ls' := [(5, .int 0), (4, .int v2), (3, .int (I o0 12)), (0, .ref o0), (1, .int v1), (2, .int v2)]) dX2_drawDays_9 (Nat.le_of_ble_eq_true rfl) rfl ?_
  refine x_ls (ls' := [(0, .ref o0), (1, .int v1), (3, .int (I o0 12)), (4, .int v2), (5, .int 0)]) [3, 4, 2, 1, 0] rfl ?_
  obtain ⟨N34, h⟩ := h
  refine lpt_X2_drawDays_11 hn hG ho0 (fun I35 L36 h => ?_) N34 v2 0 I L h
  refine x_aload_n dX2_drawDays_129 rfl ?_
  refine x_geti dX2_drawDays_130 fk_RX2_59 (Py_k ho0 hn 0 rfl) (Py_s0 ho0) ?_
  refine x_iload_n dX2_drawDays_133 rfl ?_
  refine x_isub dX2_drawDays_134 ?_
  exact x_ireturn dX2_drawDays_135 ⟨_, rfl, rfl, rfl, h⟩
abbrev rm_X2_goTillQuiet : Room := { frames := 5, cells := 0, slots := 0, locals := 140 }
def jn_X2_goTillQuiet_66 (o0 : Nat) (I : MI) (L : ML) (v1 : Int32) (kj2 : Int32 → MI → ML → Prop) : Prop :=
    (wp_X2_goBy o0 I L (fun I5 L6 => (kj2 (v1 + 1) I5 L6)))
set_option maxRecDepth 20000 in
theorem jnt_X2_goTillQuiet_66 {E : Ev} {l : Launch} {n : Nat} {R : MR} {o0 : Nat} (hn : 336 ≤ n) (hG : GRx R) (ho0 : isPlay o0) {I0 : MI} {L0 : ML} {Q : Int32 → MI → ML → Prop} {I : MI} {L : ML} {v1 : Int32} {kj2 : Int32 → MI → ML → Prop}
    (hJ2 : ∀ (v1 : Int32) (I : MI) (L : ML), kj2 v1 I L → X E l rm_X2_goTillQuiet yX2_goTillQuiet cX2_goTillQuiet 2 (some .int) noX (ZM E rm_X2_goTillQuiet (Qi n R (P11 I0 L0 Q))) 2 [(0, .ref o0), (1, .int v1)] [] n I L R 0 0) (h : jn_X2_goTillQuiet_66 o0 I L v1 kj2) : X E l rm_X2_goTillQuiet yX2_goTillQuiet cX2_goTillQuiet 2 (some .int) noX (ZM E rm_X2_goTillQuiet (Qi n R (P11 I0 L0 Q))) 66 [(0, .ref o0), (1, .int v1)] [] n I L R 0 0 := by
  unfold jn_X2_goTillQuiet_66 at h
  refine x_aload_n dX2_goTillQuiet_66 rfl ?_
  refine x_cVv11 [] (mt_X2_goBy hn hG ho0 h) dX2_goTillQuiet_67 lk_RX2_226 (Py_k ho0 hn 0 rfl) (Py_s0 ho0) rfl rfl (Nat.le_of_ble_eq_true rfl) (Rf_of rfl) (fun I5 L6 h => ?_)
  refine x_iinc (v := v1 + 1) (ls' := [(1, .int (v1 + 1)), (0, .ref o0)]) dX2_goTillQuiet_70 rfl (congrArg (_ + ·) ki_1) (Nat.le_of_ble_eq_true rfl) rfl ?_
  refine x_goto dX2_goTillQuiet_73 (tgt := 2) rfl ?_
  refine x_ls (ls' := [(0, .ref o0), (1, .int (v1 + 1))]) [1, 0] rfl ?_
  exact hJ2 (v1 + 1) I5 L6 h
def lp_X2_goTillQuiet_2 (o0 : Nat) (Q : Int32 → MI → ML → Prop) (kf76 : MI → ML → Prop) : Nat → Int32 → MI → ML → Prop
  | 0, _, _, _ => False
  | n + 1, v1, I, L =>
    ((9999 < v1 → kf76 I L) ∧ (¬ 9999 < v1 → (((I (o0 + 14) 1) ≤ 0 → kf76 I L) ∧ (¬ (I (o0 + 14) 1) ≤ 0 → (((I o0 9) < 9999 → ((v1 ≤ 0 → (jn_X2_goTillQuiet_66 o0 I L v1 (fun x7 I8 L9 => (lp_X2_goTillQuiet_2 o0 Q kf76 n x7 I8 L9)))) ∧ (¬ v1 ≤ 0 → (wp_X4_at (o0 + 14) 184 L 0 (fun x10 => ((wp_X5_day x10 (fun x11 => ((∀ I12, I12 = u2 I o0 9 (if 9998 < (if (I o0 9) < (x11 - 1) then (x11 - 1) else (I o0 9)) then 9998 else (if (I o0 9) < (x11 - 1) then (x11 - 1) else (I o0 9))) → (jn_X2_goTillQuiet_66 o0 I12 L v1 (fun x13 I14 L15 => (lp_X2_goTillQuiet_2 o0 Q kf76 n x13 I14 L15))))))))))))) ∧ (¬ (I o0 9) < 9999 → Q (-2) I L))))))
set_option maxRecDepth 20000 in
theorem lpt_X2_goTillQuiet_2 {E : Ev} {l : Launch} {n : Nat} {R : MR} {o0 : Nat} (hn : 336 ≤ n) (hG : GRx R) (ho0 : isPlay o0) {I0 : MI} {L0 : ML} {Q : Int32 → MI → ML → Prop} {kf76 : MI → ML → Prop}
    (hK76 : ∀ (I : MI) (L : ML), kf76 I L → X E l rm_X2_goTillQuiet yX2_goTillQuiet cX2_goTillQuiet 2 (some .int) noX (ZM E rm_X2_goTillQuiet (Qi n R (P11 I0 L0 Q))) 76 [(0, .ref o0)] [] n I L R 0 0) : ∀ (N : Nat) (v1 : Int32) (I : MI) (L : ML), lp_X2_goTillQuiet_2 o0 Q kf76 N v1 I L → X E l rm_X2_goTillQuiet yX2_goTillQuiet cX2_goTillQuiet 2 (some .int) noX (ZM E rm_X2_goTillQuiet (Qi n R (P11 I0 L0 Q))) 2 [(0, .ref o0), (1, .int v1)] [] n I L R 0 0 := by
  intro N
  induction N with
  | zero => intro v1 I L h; exact False.elim h
  | succ N ih =>
    intro v1 I L h
    unfold lp_X2_goTillQuiet_2 at h
    refine x_iload_n dX2_goTillQuiet_2 rfl ?_
    refine x_sipush (v := 9999) dX2_goTillQuiet_3 ks_9999 ?_
    refine x_icmp_gt dX2_goTillQuiet_6 (tgt := 76) rfl ⟨fun c1 => ?_, fun c1 => ?_⟩
    · have h := h.1 c1
      refine x_ls (ls' := [(0, .ref o0)]) [0] rfl ?_
      exact hK76 I L h
    · have h := h.2 c1
      refine x_aload_n dX2_goTillQuiet_9 rfl ?_
      refine x_getr (j := o0 + 14) dX2_goTillQuiet_10 fk_RX2_36 (Py_k ho0 hn 0 rfl) (Py_s0 ho0) (Py_r5 hG ho0) ?_
      refine x_geti dX2_goTillQuiet_13 fk_RX2_86 (Rw_k (Py_ways ho0) hn 0 rfl) (Rw_s0 (Py_ways ho0)) ?_
      refine x_if_le dX2_goTillQuiet_16 (tgt := 76) rfl ⟨fun c2 => ?_, fun c2 => ?_⟩
      · have h := h.1 c2
        refine x_ls (ls' := [(0, .ref o0)]) [0] rfl ?_
        exact hK76 I L h
      · have h := h.2 c2
        refine x_aload_n dX2_goTillQuiet_19 rfl ?_
        refine x_geti dX2_goTillQuiet_20 fk_RX2_49 (Py_k ho0 hn 0 rfl) (Py_s0 ho0) ?_
        refine x_sipush (v := 9999) dX2_goTillQuiet_23 ks_9999 ?_
        refine x_icmp_lt dX2_goTillQuiet_26 (tgt := 32) rfl ⟨fun c3 => ?_, fun c3 => ?_⟩
        · have h := h.1 c3
          refine x_iload_n dX2_goTillQuiet_32 rfl ?_
          refine x_if_le dX2_goTillQuiet_33 (tgt := 66) rfl ⟨fun c4 => ?_, fun c4 => ?_⟩
          · have h := h.1 c4
            refine jnt_X2_goTillQuiet_66 hn hG ho0 (fun x7 I8 L9 h => ?_) h
            exact ih x7 I8 L9 h
          · have h := h.2 c4
            refine x_aload_n dX2_goTillQuiet_36 rfl ?_
            refine x_aload_n dX2_goTillQuiet_37 rfl ?_
            refine x_geti dX2_goTillQuiet_38 fk_RX2_49 (Py_k ho0 hn 0 rfl) (Py_s0 ho0) ?_
            refine x_aload_n dX2_goTillQuiet_41 rfl ?_
            refine x_getr (j := o0 + 14) dX2_goTillQuiet_42 fk_RX2_36 (Py_k ho0 hn 0 rfl) (Py_s0 ho0) (Py_r5 hG ho0) ?_
            refine x_iconst (v := 0) dX2_goTillQuiet_45 ki_0 ?_
            refine x_cVl00 [.int 0] (mt_X4_at hn hG (Py_ways ho0) h) dX2_goTillQuiet_46 lk_RX2_142 (Rw_k (Py_ways ho0) hn 0 rfl) (Rw_s0 (Py_ways ho0)) rfl rfl (Nat.le_of_ble_eq_true rfl) (Rf_of rfl) (fun x10 h => ?_)
            refine x_cSi00 [.long x10] (mt_X5_day hn hG h) dX2_goTillQuiet_49 lk_RX2_146 rfl rfl (Nat.le_of_ble_eq_true rfl) (Rf_of rfl) (fun x11 h => ?_)
            refine x_iconst (v := 1) dX2_goTillQuiet_52 ki_1 ?_
            refine x_isub dX2_goTillQuiet_53 ?_
            refine x_mmax dX2_goTillQuiet_54 lk_RX2_152 ⟨Nat.le_of_ble_eq_true rfl, Nat.le_of_ble_eq_true rfl, Nat.le_refl _, Nat.le_refl _⟩ ?_
            refine x_sipush (v := 9998) dX2_goTillQuiet_57 ks_9998 ?_
            refine x_mmin dX2_goTillQuiet_60 lk_RX2_229 ⟨Nat.le_of_ble_eq_true rfl, Nat.le_of_ble_eq_true rfl, Nat.le_refl _, Nat.le_refl _⟩ ?_
            refine x_puti dX2_goTillQuiet_63 fk_RX2_49 fw_2_9 (vp_nar_int _) rfl (Py_k ho0 hn 0 rfl) (Py_s0 ho0) (fun I12 eI12 => ?_)
            have h := h I12 eI12
            refine jnt_X2_goTillQuiet_66 hn hG ho0 (fun x13 I14 L15 h => ?_) h
            exact ih x13 I14 L15 h
        · have h := h.2 c3
          refine x_bipush (v := (-2)) dX2_goTillQuiet_29 kb_m2 ?_
          exact x_ireturn dX2_goTillQuiet_31 ⟨_, rfl, rfl, rfl, h⟩
def jn_X2_goTillQuiet_76 (o0 : Nat) (I : MI) (L : ML) (Q : Int32 → MI → ML → Prop) : Prop :=
    ((¬ (I (o0 + 14) 1) = 0 → Q (-2) I L) ∧ ((I (o0 + 14) 1) = 0 → Q (I o0 9) I L))
set_option maxRecDepth 20000 in
theorem jnt_X2_goTillQuiet_76 {E : Ev} {l : Launch} {n : Nat} {R : MR} {o0 : Nat} (hn : 336 ≤ n) (hG : GRx R) (ho0 : isPlay o0) {I0 : MI} {L0 : ML} {Q : Int32 → MI → ML → Prop} {I : MI} {L : ML} (h : jn_X2_goTillQuiet_76 o0 I L Q) : X E l rm_X2_goTillQuiet yX2_goTillQuiet cX2_goTillQuiet 2 (some .int) noX (ZM E rm_X2_goTillQuiet (Qi n R (P11 I0 L0 Q))) 76 [(0, .ref o0)] [] n I L R 0 0 := by
  unfold jn_X2_goTillQuiet_76 at h
  refine x_aload_n dX2_goTillQuiet_76 rfl ?_
  refine x_getr (j := o0 + 14) dX2_goTillQuiet_77 fk_RX2_36 (Py_k ho0 hn 0 rfl) (Py_s0 ho0) (Py_r5 hG ho0) ?_
  refine x_geti dX2_goTillQuiet_80 fk_RX2_86 (Rw_k (Py_ways ho0) hn 0 rfl) (Rw_s0 (Py_ways ho0)) ?_
  refine x_if_ne dX2_goTillQuiet_83 (tgt := 93) rfl ⟨fun c19 => ?_, fun c19 => ?_⟩
  · have h := h.1 c19
    refine x_bipush (v := (-2)) dX2_goTillQuiet_93 kb_m2 ?_
    exact x_ireturn dX2_goTillQuiet_95 ⟨_, rfl, rfl, rfl, h⟩
  · have h := h.2 c19
    refine x_aload_n dX2_goTillQuiet_86 rfl ?_
    refine x_geti dX2_goTillQuiet_87 fk_RX2_49 (Py_k ho0 hn 0 rfl) (Py_s0 ho0) ?_
    refine x_goto dX2_goTillQuiet_90 (tgt := 95) rfl ?_
    exact x_ireturn dX2_goTillQuiet_95 ⟨_, rfl, rfl, rfl, h⟩
def wp_X2_goTillQuiet (o0 : Nat) (I : MI) (L : ML) (Q : Int32 → MI → ML → Prop) : Prop :=
    (∃ N16, lp_X2_goTillQuiet_2 o0 Q (fun I17 L18 => (jn_X2_goTillQuiet_76 o0 I17 L18 Q)) N16 0 I L)
set_option maxRecDepth 20000 in
theorem mt_X2_goTillQuiet {E : Ev} {l : Launch} {n : Nat} {R : MR} {o0 : Nat} (hn : 336 ≤ n) (hG : GRx R) (ho0 : isPlay o0) {I : MI} {L : ML} {Q : Int32 → MI → ML → Prop} (h : wp_X2_goTillQuiet o0 I L Q) : MX E l rm_X2_goTillQuiet yX2_goTillQuiet cX2_goTillQuiet 2 (some .int) [.ref o0] n I L R (Qi n R (P11 I L Q)) := by
  refine MX_of (ls := [(0, .ref o0)]) (by decide) (Nat.le_of_ble_eq_true rfl) rfl ?_
  unfold wp_X2_goTillQuiet at h
  refine x_iconst (v := 0) dX2_goTillQuiet_0 ki_0 ?_
  refine x_istore_n (ls' := [(1, .int 0), (0, .ref o0)]) dX2_goTillQuiet_1 (Nat.le_of_ble_eq_true rfl) rfl ?_
  refine x_ls (ls' := [(0, .ref o0), (1, .int 0)]) [1, 0] rfl ?_
  obtain ⟨N16, h⟩ := h
  refine lpt_X2_goTillQuiet_2 hn hG ho0 (fun I17 L18 h => ?_) N16 0 I L h
  exact jnt_X2_goTillQuiet_76 hn hG ho0  h
abbrev rm_X2_haveBenches : Room := { frames := 3, cells := 0, slots := 0, locals := 91 }
def wp_X2_haveBenches (o0 : Nat) (I : MI) (L : ML) (v1 : Int32) (Q : MI → ML → Prop) : Prop :=
    (∀ I1, I1 = u2 I (o0 + 1) 2 v1 → (wp_X2_fillBenches o0 I1 L (fun I2 L3 => (Q I2 L3))))
set_option maxRecDepth 20000 in
theorem mt_X2_haveBenches {E : Ev} {l : Launch} {n : Nat} {R : MR} {o0 : Nat} (hn : 336 ≤ n) (hG : GRx R) (ho0 : isPlay o0) {I : MI} {L : ML} {v1 : Int32} {Q : MI → ML → Prop} (h : wp_X2_haveBenches o0 I L v1 Q) : MX E l rm_X2_haveBenches yX2_haveBenches cX2_haveBenches 2 none [.ref o0, .int v1] n I L R (Qv n R (V11 I L Q)) := by
  refine MX_of (ls := [(0, .ref o0), (1, .int v1)]) (by decide) (Nat.le_of_ble_eq_true rfl) rfl ?_
  unfold wp_X2_haveBenches at h
  refine x_aload_n dX2_haveBenches_0 rfl ?_
  refine x_getr (j := o0 + 1) dX2_haveBenches_1 fk_RX2_12 (Py_k ho0 hn 0 rfl) (Py_s0 ho0) (Py_r0 hG ho0) ?_
  refine x_iload_n dX2_haveBenches_4 rfl ?_
  refine x_puti dX2_haveBenches_5 fk_RX2_167 fw_1_2 (vp_nar_int _) rfl (Pn_k (Py_plan ho0) hn 0 rfl) (Pn_s0 (Py_plan ho0)) (fun I1 eI1 => ?_)
  have h := h I1 eI1
  refine x_aload_n dX2_haveBenches_8 rfl ?_
  refine x_cVv11 [] (mt_X2_fillBenches hn hG ho0 h) dX2_haveBenches_9 lk_RX2_170 (Py_k ho0 hn 0 rfl) (Py_s0 ho0) rfl rfl (Nat.le_of_ble_eq_true rfl) (Rf_of rfl) (fun I2 L3 h => ?_)
  exact x_return dX2_haveBenches_12 ⟨rfl, rfl, rfl, h⟩
abbrev rm_X2_inHand : Room := { frames := 1, cells := 0, slots := 0, locals := 21 }
def lp_X2_inHand_4 (o0 : Nat) (I : MI) (v1 : Int32) (Q : Int32 → Prop) : Nat → Int32 → Int32 → Prop
  | 0, _, _ => False
  | n + 1, v2, v3 =>
    (((I (o0 + 1) 0) ≤ v3 → Q v2) ∧ (¬ (I (o0 + 1) 0) ≤ v3 → (wp_X9_placeOf v1 v3 (fun x2 => ((vp_in (x2 &&& 15) 16 ∧ (lp_X2_inHand_4 o0 I v1 Q n (v2 + (I (o0 + 10) (ix (x2 &&& 15)))) (v3 + 1))))))))
set_option maxRecDepth 20000 in
theorem lpt_X2_inHand_4 {E : Ev} {l : Launch} {n : Nat} {R : MR} {o0 : Nat} (hn : 336 ≤ n) (hG : GRx R) (ho0 : isPlay o0) {Q : Int32 → Prop} {v1 : Int32} {I : MI} {L : ML} : ∀ (N : Nat) (v2 : Int32) (v3 : Int32), lp_X2_inHand_4 o0 I v1 Q N v2 v3 → X E l rm_X2_inHand yX2_inHand cX2_inHand 4 (some .int) noX (ZM E rm_X2_inHand (Qi n R (P00 I L Q))) 4 [(0, .ref o0), (1, .int v1), (2, .int v2), (3, .int v3)] [] n I L R 0 0 := by
  intro N
  induction N with
  | zero => intro v2 v3 h; exact False.elim h
  | succ N ih =>
    intro v2 v3 h
    unfold lp_X2_inHand_4 at h
    refine x_iload_n dX2_inHand_4 rfl ?_
    refine x_aload_n dX2_inHand_5 rfl ?_
    refine x_getr (j := o0 + 1) dX2_inHand_6 fk_RX2_12 (Py_k ho0 hn 0 rfl) (Py_s0 ho0) (Py_r0 hG ho0) ?_
    refine x_geti dX2_inHand_9 fk_RX2_212 (Pn_k (Py_plan ho0) hn 0 rfl) (Pn_s0 (Py_plan ho0)) ?_
    refine x_icmp_ge dX2_inHand_12 (tgt := 37) rfl ⟨fun c1 => ?_, fun c1 => ?_⟩
    · have h := h.1 c1
      refine x_iload_n dX2_inHand_37 rfl ?_
      exact x_ireturn dX2_inHand_38 ⟨_, rfl, rfl, rfl, rfl, rfl, h⟩
    · have h := h.2 c1
      refine x_iload_n dX2_inHand_15 rfl ?_
      refine x_aload_n dX2_inHand_16 rfl ?_
      refine x_getr (j := o0 + 10) dX2_inHand_17 fk_RX2_18 (Py_k ho0 hn 0 rfl) (Py_s0 ho0) (Py_r1 hG ho0) ?_
      refine x_iload_n dX2_inHand_20 rfl ?_
      refine x_iload_n dX2_inHand_21 rfl ?_
      refine x_cNi00 [.int v1, .int v3] (mt_X9_placeOf hn hG h) dX2_inHand_22 lk_RX2_209 rfl rfl (Nat.le_of_ble_eq_true rfl) (Rf_of rfl) (fun x2 h => ?_)
      refine x_bipush (v := 15) dX2_inHand_25 kb_15 ?_
      refine x_iand dX2_inHand_27 ?_
      obtain ⟨b3, h⟩ := h
      refine x_iaload dX2_inHand_28 (Py_k ho0 hn 10 rfl) (Py_s10 ho0) b3 ?_
      refine x_iadd dX2_inHand_29 ?_
      refine x_istore_n (ls' := [(2, .int (v2 + (I (o0 + 10) (ix (x2 &&& 15))))), (0, .ref o0), (1, .int v1), (3, .int v3)]) dX2_inHand_30 (Nat.le_of_ble_eq_true rfl) rfl ?_
      refine x_iinc (v := v3 + 1) (ls' := [(3, .int (v3 + 1)), (2, .int (v2 + (I (o0 + 10) (ix (x2 &&& 15))))), (0, .ref o0), (1, .int v1)]) dX2_inHand_31 rfl (congrArg (_ + ·) ki_1) (Nat.le_of_ble_eq_true rfl) rfl ?_
      refine x_goto dX2_inHand_34 (tgt := 4) rfl ?_
      refine x_ls (ls' := [(0, .ref o0), (1, .int v1), (2, .int (v2 + (I (o0 + 10) (ix (x2 &&& 15))))), (3, .int (v3 + 1))]) [2, 3, 1, 0] rfl ?_
      exact ih (v2 + (I (o0 + 10) (ix (x2 &&& 15)))) (v3 + 1) h
def wp_X2_inHand (o0 : Nat) (I : MI) (v1 : Int32) (Q : Int32 → Prop) : Prop :=
    (∃ N4, lp_X2_inHand_4 o0 I v1 Q N4 0 0)
set_option maxRecDepth 20000 in
theorem mt_X2_inHand {E : Ev} {l : Launch} {n : Nat} {R : MR} {o0 : Nat} (hn : 336 ≤ n) (hG : GRx R) (ho0 : isPlay o0) {I : MI} {L : ML} {v1 : Int32} {Q : Int32 → Prop} (h : wp_X2_inHand o0 I v1 Q) : MX E l rm_X2_inHand yX2_inHand cX2_inHand 4 (some .int) [.ref o0, .int v1] n I L R (Qi n R (P00 I L Q)) := by
  refine MX_of (ls := [(0, .ref o0), (1, .int v1)]) (by decide) (Nat.le_of_ble_eq_true rfl) rfl ?_
  unfold wp_X2_inHand at h
  refine x_iconst (v := 0) dX2_inHand_0 ki_0 ?_
  refine x_istore_n (ls' := [(2, .int 0), (0, .ref o0), (1, .int v1)]) dX2_inHand_1 (Nat.le_of_ble_eq_true rfl) rfl ?_
  refine x_iconst (v := 0) dX2_inHand_2 ki_0 ?_
  refine x_istore_n (ls' := [(3, .int 0), (2, .int 0), (0, .ref o0), (1, .int v1)]) dX2_inHand_3 (Nat.le_of_ble_eq_true rfl) rfl ?_
  refine x_ls (ls' := [(0, .ref o0), (1, .int v1), (2, .int 0), (3, .int 0)]) [2, 3, 1, 0] rfl ?_
  obtain ⟨N4, h⟩ := h
  exact lpt_X2_inHand_4 hn hG ho0  N4 0 0 h
abbrev rm_X2_late : Room := { frames := 1, cells := 0, slots := 0, locals := 21 }
def lp_X2_late_7 (o0 : Nat) (I : MI) (L : ML) (Q : Int32 → Prop) : Nat → Int32 → Int32 → Prop
  | 0, _, _ => False
  | n + 1, v1, v2 =>
    (((I (o0 + 16) 1) ≤ v2 → Q v1) ∧ (¬ (I (o0 + 16) 1) ≤ v2 → (wp_X4_at (o0 + 16) 72 L v2 (fun x2 => ((wp_X5_day x2 (fun x3 => ((lp_X2_late_7 o0 I L Q n (v1 + ((I o0 9) - x3)) (v2 + 1))))))))))
set_option maxRecDepth 20000 in
theorem lpt_X2_late_7 {E : Ev} {l : Launch} {n : Nat} {R : MR} {o0 : Nat} (hn : 336 ≤ n) (hG : GRx R) (ho0 : isPlay o0) {Q : Int32 → Prop} {I : MI} {L : ML} : ∀ (N : Nat) (v1 : Int32) (v2 : Int32), lp_X2_late_7 o0 I L Q N v1 v2 → X E l rm_X2_late yX2_late cX2_late 3 (some .int) noX (ZM E rm_X2_late (Qi n R (P00 I L Q))) 7 [(0, .ref o0), (1, .int v1), (2, .int v2)] [] n I L R 0 0 := by
  intro N
  induction N with
  | zero => intro v1 v2 h; exact False.elim h
  | succ N ih =>
    intro v1 v2 h
    unfold lp_X2_late_7 at h
    refine x_iload_n dX2_late_7 rfl ?_
    refine x_aload_n dX2_late_8 rfl ?_
    refine x_getr (j := o0 + 16) dX2_late_9 fk_RX2_40 (Py_k ho0 hn 0 rfl) (Py_s0 ho0) (Py_r6 hG ho0) ?_
    refine x_geti dX2_late_12 fk_RX2_86 (Rw_k (Py_wants ho0) hn 0 rfl) (Rw_s0 (Py_wants ho0)) ?_
    refine x_icmp_ge dX2_late_15 (tgt := 43) rfl ⟨fun c1 => ?_, fun c1 => ?_⟩
    · have h := h.1 c1
      refine x_iload_n dX2_late_43 rfl ?_
      exact x_ireturn dX2_late_44 ⟨_, rfl, rfl, rfl, rfl, rfl, h⟩
    · have h := h.2 c1
      refine x_iload_n dX2_late_18 rfl ?_
      refine x_aload_n dX2_late_19 rfl ?_
      refine x_geti dX2_late_20 fk_RX2_49 (Py_k ho0 hn 0 rfl) (Py_s0 ho0) ?_
      refine x_aload_n dX2_late_23 rfl ?_
      refine x_getr (j := o0 + 16) dX2_late_24 fk_RX2_40 (Py_k ho0 hn 0 rfl) (Py_s0 ho0) (Py_r6 hG ho0) ?_
      refine x_iload_n dX2_late_27 rfl ?_
      refine x_cVl00 [.int v2] (mt_X4_at hn hG (Py_wants ho0) h) dX2_late_28 lk_RX2_142 (Rw_k (Py_wants ho0) hn 0 rfl) (Rw_s0 (Py_wants ho0)) rfl rfl (Nat.le_of_ble_eq_true rfl) (Rf_of rfl) (fun x2 h => ?_)
      refine x_cSi00 [.long x2] (mt_X5_day hn hG h) dX2_late_31 lk_RX2_146 rfl rfl (Nat.le_of_ble_eq_true rfl) (Rf_of rfl) (fun x3 h => ?_)
      refine x_isub dX2_late_34 ?_
      refine x_iadd dX2_late_35 ?_
      refine x_istore_n (ls' := [(1, .int (v1 + ((I o0 9) - x3))), (0, .ref o0), (2, .int v2)]) dX2_late_36 (Nat.le_of_ble_eq_true rfl) rfl ?_
      refine x_iinc (v := v2 + 1) (ls' := [(2, .int (v2 + 1)), (1, .int (v1 + ((I o0 9) - x3))), (0, .ref o0)]) dX2_late_37 rfl (congrArg (_ + ·) ki_1) (Nat.le_of_ble_eq_true rfl) rfl ?_
      refine x_goto dX2_late_40 (tgt := 7) rfl ?_
      refine x_ls (ls' := [(0, .ref o0), (1, .int (v1 + ((I o0 9) - x3))), (2, .int (v2 + 1))]) [2, 1, 0] rfl ?_
      exact ih (v1 + ((I o0 9) - x3)) (v2 + 1) h
def wp_X2_late (o0 : Nat) (I : MI) (L : ML) (Q : Int32 → Prop) : Prop :=
    (∃ N4, lp_X2_late_7 o0 I L Q N4 (I o0 15) 0)
set_option maxRecDepth 20000 in
theorem mt_X2_late {E : Ev} {l : Launch} {n : Nat} {R : MR} {o0 : Nat} (hn : 336 ≤ n) (hG : GRx R) (ho0 : isPlay o0) {I : MI} {L : ML} {Q : Int32 → Prop} (h : wp_X2_late o0 I L Q) : MX E l rm_X2_late yX2_late cX2_late 3 (some .int) [.ref o0] n I L R (Qi n R (P00 I L Q)) := by
  refine MX_of (ls := [(0, .ref o0)]) (by decide) (Nat.le_of_ble_eq_true rfl) rfl ?_
  unfold wp_X2_late at h
  refine x_aload_n dX2_late_0 rfl ?_
  refine x_geti dX2_late_1 fk_RX2_68 (Py_k ho0 hn 0 rfl) (Py_s0 ho0) ?_
  refine x_istore_n (ls' := [(1, .int (I o0 15)), (0, .ref o0)]) dX2_late_4 (Nat.le_of_ble_eq_true rfl) rfl ?_
  refine x_iconst (v := 0) dX2_late_5 ki_0 ?_
  refine x_istore_n (ls' := [(2, .int 0), (1, .int (I o0 15)), (0, .ref o0)]) dX2_late_6 (Nat.le_of_ble_eq_true rfl) rfl ?_
  refine x_ls (ls' := [(0, .ref o0), (1, .int (I o0 15)), (2, .int 0)]) [2, 1, 0] rfl ?_
  obtain ⟨N4, h⟩ := h
  exact lpt_X2_late_7 hn hG ho0  N4 (I o0 15) 0 h
abbrev rm_X2_longestWait : Room := { frames := 1, cells := 0, slots := 0, locals := 21 }
def wp_X2_longestWait (o0 : Nat) (I : MI) (L : ML) (Q : Int32 → Prop) : Prop :=
    ((¬ (I (o0 + 16) 1) = 0 → (wp_X4_at (o0 + 16) 72 L 0 (fun x2 => ((wp_X5_day x2 (fun x3 => (Q (if (I o0 16) < ((I o0 9) - x3) then ((I o0 9) - x3) else (I o0 16))))))))) ∧ ((I (o0 + 16) 1) = 0 → Q (I o0 16)))
set_option maxRecDepth 20000 in
theorem mt_X2_longestWait {E : Ev} {l : Launch} {n : Nat} {R : MR} {o0 : Nat} (hn : 336 ≤ n) (hG : GRx R) (ho0 : isPlay o0) {I : MI} {L : ML} {Q : Int32 → Prop} (h : wp_X2_longestWait o0 I L Q) : MX E l rm_X2_longestWait yX2_longestWait cX2_longestWait 1 (some .int) [.ref o0] n I L R (Qi n R (P00 I L Q)) := by
  refine MX_of (ls := [(0, .ref o0)]) (by decide) (Nat.le_of_ble_eq_true rfl) rfl ?_
  unfold wp_X2_longestWait at h
  refine x_aload_n dX2_longestWait_0 rfl ?_
  refine x_getr (j := o0 + 16) dX2_longestWait_1 fk_RX2_40 (Py_k ho0 hn 0 rfl) (Py_s0 ho0) (Py_r6 hG ho0) ?_
  refine x_geti dX2_longestWait_4 fk_RX2_86 (Rw_k (Py_wants ho0) hn 0 rfl) (Rw_s0 (Py_wants ho0)) ?_
  refine x_if_ne dX2_longestWait_7 (tgt := 17) rfl ⟨fun c1 => ?_, fun c1 => ?_⟩
  · have h := h.1 c1
    refine x_aload_n dX2_longestWait_17 rfl ?_
    refine x_geti dX2_longestWait_18 fk_RX2_71 (Py_k ho0 hn 0 rfl) (Py_s0 ho0) ?_
    refine x_aload_n dX2_longestWait_21 rfl ?_
    refine x_geti dX2_longestWait_22 fk_RX2_49 (Py_k ho0 hn 0 rfl) (Py_s0 ho0) ?_
    refine x_aload_n dX2_longestWait_25 rfl ?_
    refine x_getr (j := o0 + 16) dX2_longestWait_26 fk_RX2_40 (Py_k ho0 hn 0 rfl) (Py_s0 ho0) (Py_r6 hG ho0) ?_
    refine x_iconst (v := 0) dX2_longestWait_29 ki_0 ?_
    refine x_cVl00 [.int 0] (mt_X4_at hn hG (Py_wants ho0) h) dX2_longestWait_30 lk_RX2_142 (Rw_k (Py_wants ho0) hn 0 rfl) (Rw_s0 (Py_wants ho0)) rfl rfl (Nat.le_of_ble_eq_true rfl) (Rf_of rfl) (fun x2 h => ?_)
    refine x_cSi00 [.long x2] (mt_X5_day hn hG h) dX2_longestWait_33 lk_RX2_146 rfl rfl (Nat.le_of_ble_eq_true rfl) (Rf_of rfl) (fun x3 h => ?_)
    refine x_isub dX2_longestWait_36 ?_
    refine x_mmax dX2_longestWait_37 lk_RX2_152 ⟨Nat.le_of_ble_eq_true rfl, Nat.le_of_ble_eq_true rfl, Nat.le_refl _, Nat.le_refl _⟩ ?_
    exact x_ireturn dX2_longestWait_40 ⟨_, rfl, rfl, rfl, rfl, rfl, h⟩
  · have h := h.2 c1
    refine x_aload_n dX2_longestWait_10 rfl ?_
    refine x_geti dX2_longestWait_11 fk_RX2_71 (Py_k ho0 hn 0 rfl) (Py_s0 ho0) ?_
    refine x_goto dX2_longestWait_14 (tgt := 40) rfl ?_
    exact x_ireturn dX2_longestWait_40 ⟨_, rfl, rfl, rfl, rfl, rfl, h⟩
abbrev rm_X2_tell : Room := { frames := 2, cells := 0, slots := 0, locals := 43 }
def wp_X2_tell (o0 : Nat) (I : MI) (L : ML) (v1 : Int32) (Q : Int32 → Prop) : Prop :=
    ((v1 = 0 → Q (I o0 9)) ∧ (¬ v1 = 0 → ((v1 = 1 → Q (I o0 12)) ∧ (¬ v1 = 1 → ((v1 = 2 → Q (I o0 13)) ∧ (¬ v1 = 2 → ((v1 = 3 → Q (I (o0 + 16) 1)) ∧ (¬ v1 = 3 → ((v1 = 4 → Q (I o0 14)) ∧ (¬ v1 = 4 → ((v1 = 5 → (wp_X2_late o0 I L (fun x7 => (Q x7)))) ∧ (¬ v1 = 5 → ((v1 = 6 → (wp_X2_longestWait o0 I L (fun x9 => (Q x9)))) ∧ (¬ v1 = 6 → ((v1 = 7 → Q (I o0 17)) ∧ (¬ v1 = 7 → ((v1 = 8 → Q (I o0 18)) ∧ (¬ v1 = 8 → ((v1 = 9 → Q (I (o0 + 14) 1)) ∧ (¬ v1 = 9 → ((v1 = 10 → Q (I (o0 + 20) 1)) ∧ (¬ v1 = 10 → Q (-1)))))))))))))))))))))))
set_option maxRecDepth 20000 in
theorem mt_X2_tell {E : Ev} {l : Launch} {n : Nat} {R : MR} {o0 : Nat} (hn : 336 ≤ n) (hG : GRx R) (ho0 : isPlay o0) {I : MI} {L : ML} {v1 : Int32} {Q : Int32 → Prop} (h : wp_X2_tell o0 I L v1 Q) : MX E l rm_X2_tell yX2_tell cX2_tell 2 (some .int) [.ref o0, .int v1] n I L R (Qi n R (P00 I L Q)) := by
  refine MX_of (ls := [(0, .ref o0), (1, .int v1)]) (by decide) (Nat.le_of_ble_eq_true rfl) rfl ?_
  unfold wp_X2_tell at h
  refine x_iload_n dX2_tell_0 rfl ?_
  rcases Classical.em (v1 = 0) with c1 | c1
  · have h := h.1 c1
    refine x_tabIn (tgt := 60) dX2_tell_1 (by rw [c1]; decide) (by rw [c1]; decide) (off := 59) (by rw [c1]; rfl) rfl ?_
    refine x_aload_n dX2_tell_60 rfl ?_
    refine x_geti dX2_tell_61 fk_RX2_49 (Py_k ho0 hn 0 rfl) (Py_s0 ho0) ?_
    exact x_ireturn dX2_tell_64 ⟨_, rfl, rfl, rfl, rfl, rfl, h⟩
  · have h := h.2 c1
    rcases Classical.em (v1 = 1) with c2 | c2
    · have h := h.1 c2
      refine x_tabIn (tgt := 65) dX2_tell_1 (by rw [c2]; decide) (by rw [c2]; decide) (off := 64) (by rw [c2]; rfl) rfl ?_
      refine x_aload_n dX2_tell_65 rfl ?_
      refine x_geti dX2_tell_66 fk_RX2_59 (Py_k ho0 hn 0 rfl) (Py_s0 ho0) ?_
      exact x_ireturn dX2_tell_69 ⟨_, rfl, rfl, rfl, rfl, rfl, h⟩
    · have h := h.2 c2
      rcases Classical.em (v1 = 2) with c3 | c3
      · have h := h.1 c3
        refine x_tabIn (tgt := 70) dX2_tell_1 (by rw [c3]; decide) (by rw [c3]; decide) (off := 69) (by rw [c3]; rfl) rfl ?_
        refine x_aload_n dX2_tell_70 rfl ?_
        refine x_geti dX2_tell_71 fk_RX2_62 (Py_k ho0 hn 0 rfl) (Py_s0 ho0) ?_
        exact x_ireturn dX2_tell_74 ⟨_, rfl, rfl, rfl, rfl, rfl, h⟩
      · have h := h.2 c3
        rcases Classical.em (v1 = 3) with c4 | c4
        · have h := h.1 c4
          refine x_tabIn (tgt := 75) dX2_tell_1 (by rw [c4]; decide) (by rw [c4]; decide) (off := 74) (by rw [c4]; rfl) rfl ?_
          refine x_aload_n dX2_tell_75 rfl ?_
          refine x_getr (j := o0 + 16) dX2_tell_76 fk_RX2_40 (Py_k ho0 hn 0 rfl) (Py_s0 ho0) (Py_r6 hG ho0) ?_
          refine x_geti dX2_tell_79 fk_RX2_86 (Rw_k (Py_wants ho0) hn 0 rfl) (Rw_s0 (Py_wants ho0)) ?_
          exact x_ireturn dX2_tell_82 ⟨_, rfl, rfl, rfl, rfl, rfl, h⟩
        · have h := h.2 c4
          rcases Classical.em (v1 = 4) with c5 | c5
          · have h := h.1 c5
            refine x_tabIn (tgt := 83) dX2_tell_1 (by rw [c5]; decide) (by rw [c5]; decide) (off := 82) (by rw [c5]; rfl) rfl ?_
            refine x_aload_n dX2_tell_83 rfl ?_
            refine x_geti dX2_tell_84 fk_RX2_65 (Py_k ho0 hn 0 rfl) (Py_s0 ho0) ?_
            exact x_ireturn dX2_tell_87 ⟨_, rfl, rfl, rfl, rfl, rfl, h⟩
          · have h := h.2 c5
            rcases Classical.em (v1 = 5) with c6 | c6
            · have h := h.1 c6
              refine x_tabIn (tgt := 88) dX2_tell_1 (by rw [c6]; decide) (by rw [c6]; decide) (off := 87) (by rw [c6]; rfl) rfl ?_
              refine x_aload_n dX2_tell_88 rfl ?_
              refine x_cVi00 [] (mt_X2_late hn hG ho0 h) dX2_tell_89 lk_RX2_232 (Py_k ho0 hn 0 rfl) (Py_s0 ho0) rfl rfl (Nat.le_of_ble_eq_true rfl) (Rf_of rfl) (fun x7 h => ?_)
              exact x_ireturn dX2_tell_92 ⟨_, rfl, rfl, rfl, rfl, rfl, h⟩
            · have h := h.2 c6
              rcases Classical.em (v1 = 6) with c8 | c8
              · have h := h.1 c8
                refine x_tabIn (tgt := 93) dX2_tell_1 (by rw [c8]; decide) (by rw [c8]; decide) (off := 92) (by rw [c8]; rfl) rfl ?_
                refine x_aload_n dX2_tell_93 rfl ?_
                refine x_cVi00 [] (mt_X2_longestWait hn hG ho0 h) dX2_tell_94 lk_RX2_236 (Py_k ho0 hn 0 rfl) (Py_s0 ho0) rfl rfl (Nat.le_of_ble_eq_true rfl) (Rf_of rfl) (fun x9 h => ?_)
                exact x_ireturn dX2_tell_97 ⟨_, rfl, rfl, rfl, rfl, rfl, h⟩
              · have h := h.2 c8
                rcases Classical.em (v1 = 7) with c10 | c10
                · have h := h.1 c10
                  refine x_tabIn (tgt := 98) dX2_tell_1 (by rw [c10]; decide) (by rw [c10]; decide) (off := 97) (by rw [c10]; rfl) rfl ?_
                  refine x_aload_n dX2_tell_98 rfl ?_
                  refine x_geti dX2_tell_99 fk_RX2_74 (Py_k ho0 hn 0 rfl) (Py_s0 ho0) ?_
                  exact x_ireturn dX2_tell_102 ⟨_, rfl, rfl, rfl, rfl, rfl, h⟩
                · have h := h.2 c10
                  rcases Classical.em (v1 = 8) with c11 | c11
                  · have h := h.1 c11
                    refine x_tabIn (tgt := 103) dX2_tell_1 (by rw [c11]; decide) (by rw [c11]; decide) (off := 102) (by rw [c11]; rfl) rfl ?_
                    refine x_aload_n dX2_tell_103 rfl ?_
                    refine x_geti dX2_tell_104 fk_RX2_77 (Py_k ho0 hn 0 rfl) (Py_s0 ho0) ?_
                    exact x_ireturn dX2_tell_107 ⟨_, rfl, rfl, rfl, rfl, rfl, h⟩
                  · have h := h.2 c11
                    rcases Classical.em (v1 = 9) with c12 | c12
                    · have h := h.1 c12
                      refine x_tabIn (tgt := 108) dX2_tell_1 (by rw [c12]; decide) (by rw [c12]; decide) (off := 107) (by rw [c12]; rfl) rfl ?_
                      refine x_aload_n dX2_tell_108 rfl ?_
                      refine x_getr (j := o0 + 14) dX2_tell_109 fk_RX2_36 (Py_k ho0 hn 0 rfl) (Py_s0 ho0) (Py_r5 hG ho0) ?_
                      refine x_geti dX2_tell_112 fk_RX2_86 (Rw_k (Py_ways ho0) hn 0 rfl) (Rw_s0 (Py_ways ho0)) ?_
                      exact x_ireturn dX2_tell_115 ⟨_, rfl, rfl, rfl, rfl, rfl, h⟩
                    · have h := h.2 c12
                      rcases Classical.em (v1 = 10) with c13 | c13
                      · have h := h.1 c13
                        refine x_tabIn (tgt := 116) dX2_tell_1 (by rw [c13]; decide) (by rw [c13]; decide) (off := 115) (by rw [c13]; rfl) rfl ?_
                        refine x_aload_n dX2_tell_116 rfl ?_
                        refine x_getr (j := o0 + 20) dX2_tell_117 fk_RX2_46 (Py_k ho0 hn 0 rfl) (Py_s0 ho0) (Py_r8 hG ho0) ?_
                        refine x_geti dX2_tell_120 fk_RX2_86 (Rw_k (Py_waiting ho0) hn 0 rfl) (Rw_s0 (Py_waiting ho0)) ?_
                        exact x_ireturn dX2_tell_123 ⟨_, rfl, rfl, rfl, rfl, rfl, h⟩
                      · have h := h.2 c13
                        refine x_tabOut (tgt := 124) dX2_tell_1 (sw_out 10 rfl (sw_11 c1 c2 c3 c4 c5 c6 c8 c10 c11 c12 c13)) rfl ?_
                        refine x_iconst (v := (-1)) dX2_tell_124 ki_m1 ?_
                        exact x_ireturn dX2_tell_125 ⟨_, rfl, rfl, rfl, rfl, rfl, h⟩
abbrev rm_X2_waysOf : Room := { frames := 1, cells := 0, slots := 0, locals := 21 }
def jn_X2_waysOf_56 (v4 : Int32) (v5 : Int32) (kj6 : Int32 → Int32 → Prop) : Prop :=
    kj6 v4 (v5 + 1)
set_option maxRecDepth 20000 in
theorem jnt_X2_waysOf_56 {E : Ev} {l : Launch} {n : Nat} {R : MR} {o0 : Nat} (hn : 336 ≤ n) (hG : GRx R) (ho0 : isPlay o0) {Q : Int32 → Prop} {I : MI} {L : ML} {v1 : Int32} {v2 : Int32} {v3 : Int32} {v4 : Int32} {v5 : Int32} {kj6 : Int32 → Int32 → Prop}
    (hJ6 : ∀ (v4 : Int32) (v5 : Int32), kj6 v4 v5 → X E l rm_X2_waysOf yX2_waysOf cX2_waysOf 8 (some .int) noX (ZM E rm_X2_waysOf (Qi n R (P00 I L Q))) 6 [(0, .ref o0), (1, .int v1), (2, .int v2), (3, .int v3), (4, .int v4), (5, .int v5)] [] n I L R 0 0) (h : jn_X2_waysOf_56 v4 v5 kj6) : X E l rm_X2_waysOf yX2_waysOf cX2_waysOf 8 (some .int) noX (ZM E rm_X2_waysOf (Qi n R (P00 I L Q))) 56 [(0, .ref o0), (1, .int v1), (2, .int v2), (3, .int v3), (4, .int v4), (5, .int v5)] [] n I L R 0 0 := by
  unfold jn_X2_waysOf_56 at h
  refine x_iinc (v := v5 + 1) (ls' := [(5, .int (v5 + 1)), (0, .ref o0), (1, .int v1), (2, .int v2), (3, .int v3), (4, .int v4)]) dX2_waysOf_56 rfl (congrArg (_ + ·) ki_1) (Nat.le_of_ble_eq_true rfl) rfl ?_
  refine x_goto dX2_waysOf_59 (tgt := 6) rfl ?_
  refine x_ls (ls' := [(0, .ref o0), (1, .int v1), (2, .int v2), (3, .int v3), (4, .int v4), (5, .int (v5 + 1))]) [1, 2, 3, 4, 5, 0] rfl ?_
  exact hJ6 v4 (v5 + 1) h
def lp_X2_waysOf_6 (o0 : Nat) (I : MI) (L : ML) (v1 : Int32) (v2 : Int32) (v3 : Int32) (Q : Int32 → Prop) : Nat → Int32 → Int32 → Prop
  | 0, _, _ => False
  | n + 1, v4, v5 =>
    (((I (o0 + 14) 1) ≤ v5 → Q v4) ∧ (¬ (I (o0 + 14) 1) ≤ v5 → (wp_X4_at (o0 + 14) 184 L v5 (fun x2 => ((wp_X5_mark x2 (fun x3 => (((¬ ((usr v1 x3) &&& 1) = 1 → (jn_X2_waysOf_56 v4 v5 (fun x5 x6 => (lp_X2_waysOf_6 o0 I L v1 v2 v3 Q n x5 x6)))) ∧ (((usr v1 x3) &&& 1) = 1 → ((¬ (lg_cmp (x2 &&& v2.toInt64) v3.toInt64) = 0 → (jn_X2_waysOf_56 v4 v5 (fun x8 x9 => (lp_X2_waysOf_6 o0 I L v1 v2 v3 Q n x8 x9)))) ∧ ((lg_cmp (x2 &&& v2.toInt64) v3.toInt64) = 0 → (jn_X2_waysOf_56 (v4 + 1) v5 (fun x10 x11 => (lp_X2_waysOf_6 o0 I L v1 v2 v3 Q n x10 x11)))))))))))))))
set_option maxRecDepth 20000 in
theorem lpt_X2_waysOf_6 {E : Ev} {l : Launch} {n : Nat} {R : MR} {o0 : Nat} (hn : 336 ≤ n) (hG : GRx R) (ho0 : isPlay o0) {Q : Int32 → Prop} {v1 : Int32} {v2 : Int32} {v3 : Int32} {I : MI} {L : ML} : ∀ (N : Nat) (v4 : Int32) (v5 : Int32), lp_X2_waysOf_6 o0 I L v1 v2 v3 Q N v4 v5 → X E l rm_X2_waysOf yX2_waysOf cX2_waysOf 8 (some .int) noX (ZM E rm_X2_waysOf (Qi n R (P00 I L Q))) 6 [(0, .ref o0), (1, .int v1), (2, .int v2), (3, .int v3), (4, .int v4), (5, .int v5)] [] n I L R 0 0 := by
  intro N
  induction N with
  | zero => intro v4 v5 h; exact False.elim h
  | succ N ih =>
    intro v4 v5 h
    unfold lp_X2_waysOf_6 at h
    refine x_iload dX2_waysOf_6 rfl ?_
    refine x_aload_n dX2_waysOf_8 rfl ?_
    refine x_getr (j := o0 + 14) dX2_waysOf_9 fk_RX2_36 (Py_k ho0 hn 0 rfl) (Py_s0 ho0) (Py_r5 hG ho0) ?_
    refine x_geti dX2_waysOf_12 fk_RX2_86 (Rw_k (Py_ways ho0) hn 0 rfl) (Rw_s0 (Py_ways ho0)) ?_
    refine x_icmp_ge dX2_waysOf_15 (tgt := 62) rfl ⟨fun c1 => ?_, fun c1 => ?_⟩
    · have h := h.1 c1
      refine x_iload dX2_waysOf_62 rfl ?_
      exact x_ireturn dX2_waysOf_64 ⟨_, rfl, rfl, rfl, rfl, rfl, h⟩
    · have h := h.2 c1
      refine x_aload_n dX2_waysOf_18 rfl ?_
      refine x_getr (j := o0 + 14) dX2_waysOf_19 fk_RX2_36 (Py_k ho0 hn 0 rfl) (Py_s0 ho0) (Py_r5 hG ho0) ?_
      refine x_iload dX2_waysOf_22 rfl ?_
      refine x_cVl00 [.int v5] (mt_X4_at hn hG (Py_ways ho0) h) dX2_waysOf_24 lk_RX2_142 (Rw_k (Py_ways ho0) hn 0 rfl) (Rw_s0 (Py_ways ho0)) rfl rfl (Nat.le_of_ble_eq_true rfl) (Rf_of rfl) (fun x2 h => ?_)
      refine x_lstore (ls' := [(6, .long x2), (0, .ref o0), (1, .int v1), (2, .int v2), (3, .int v3), (4, .int v4), (5, .int v5)]) dX2_waysOf_27 (Nat.le_of_ble_eq_true rfl) rfl ?_
      refine x_iload_n dX2_waysOf_29 rfl ?_
      refine x_lload dX2_waysOf_30 rfl ?_
      refine x_cSi00 [.long x2] (mt_X5_mark hn hG h) dX2_waysOf_32 lk_RX2_176 rfl rfl (Nat.le_of_ble_eq_true rfl) (Rf_of rfl) (fun x3 h => ?_)
      refine x_iushr dX2_waysOf_35 ?_
      refine x_iconst (v := 1) dX2_waysOf_36 ki_1 ?_
      refine x_iand dX2_waysOf_37 ?_
      refine x_iconst (v := 1) dX2_waysOf_38 ki_1 ?_
      refine x_icmp_ne dX2_waysOf_39 (tgt := 56) rfl ⟨fun c4 => ?_, fun c4 => ?_⟩
      · have h := h.1 c4
        refine x_ls (ls' := [(0, .ref o0), (1, .int v1), (2, .int v2), (3, .int v3), (4, .int v4), (5, .int v5)]) [1, 2, 3, 4, 5, 6] rfl ?_
        refine jnt_X2_waysOf_56 hn hG ho0 (fun x5 x6 h => ?_) h
        exact ih x5 x6 h
      · have h := h.2 c4
        refine x_lload dX2_waysOf_42 rfl ?_
        refine x_iload_n dX2_waysOf_44 rfl ?_
        refine x_i2l dX2_waysOf_45 ?_
        refine x_land dX2_waysOf_46 ?_
        refine x_iload_n dX2_waysOf_47 rfl ?_
        refine x_i2l dX2_waysOf_48 ?_
        refine x_lcmp dX2_waysOf_49 ?_
        refine x_if_ne dX2_waysOf_50 (tgt := 56) rfl ⟨fun c7 => ?_, fun c7 => ?_⟩
        · have h := h.1 c7
          refine x_ls (ls' := [(0, .ref o0), (1, .int v1), (2, .int v2), (3, .int v3), (4, .int v4), (5, .int v5)]) [1, 2, 3, 4, 5, 6] rfl ?_
          refine jnt_X2_waysOf_56 hn hG ho0 (fun x8 x9 h => ?_) h
          exact ih x8 x9 h
        · have h := h.2 c7
          refine x_iinc (v := v4 + 1) (ls' := [(4, .int (v4 + 1)), (6, .long x2), (0, .ref o0), (1, .int v1), (2, .int v2), (3, .int v3), (5, .int v5)]) dX2_waysOf_53 rfl (congrArg (_ + ·) ki_1) (Nat.le_of_ble_eq_true rfl) rfl ?_
          refine x_ls (ls' := [(0, .ref o0), (1, .int v1), (2, .int v2), (3, .int v3), (4, .int (v4 + 1)), (5, .int v5)]) [2, 3, 4, 5, 0, 6] rfl ?_
          refine jnt_X2_waysOf_56 hn hG ho0 (fun x10 x11 h => ?_) h
          exact ih x10 x11 h
def wp_X2_waysOf (o0 : Nat) (I : MI) (L : ML) (v1 : Int32) (v2 : Int32) (v3 : Int32) (Q : Int32 → Prop) : Prop :=
    (∃ N12, lp_X2_waysOf_6 o0 I L v1 v2 v3 Q N12 0 0)
set_option maxRecDepth 20000 in
theorem mt_X2_waysOf {E : Ev} {l : Launch} {n : Nat} {R : MR} {o0 : Nat} (hn : 336 ≤ n) (hG : GRx R) (ho0 : isPlay o0) {I : MI} {L : ML} {v1 : Int32} {v2 : Int32} {v3 : Int32} {Q : Int32 → Prop} (h : wp_X2_waysOf o0 I L v1 v2 v3 Q) : MX E l rm_X2_waysOf yX2_waysOf cX2_waysOf 8 (some .int) [.ref o0, .int v1, .int v2, .int v3] n I L R (Qi n R (P00 I L Q)) := by
  refine MX_of (ls := [(0, .ref o0), (1, .int v1), (2, .int v2), (3, .int v3)]) (by decide) (Nat.le_of_ble_eq_true rfl) rfl ?_
  unfold wp_X2_waysOf at h
  refine x_iconst (v := 0) dX2_waysOf_0 ki_0 ?_
  refine x_istore (ls' := [(4, .int 0), (0, .ref o0), (1, .int v1), (2, .int v2), (3, .int v3)]) dX2_waysOf_1 (Nat.le_of_ble_eq_true rfl) rfl ?_
  refine x_iconst (v := 0) dX2_waysOf_3 ki_0 ?_
  refine x_istore (ls' := [(5, .int 0), (4, .int 0), (0, .ref o0), (1, .int v1), (2, .int v2), (3, .int v3)]) dX2_waysOf_4 (Nat.le_of_ble_eq_true rfl) rfl ?_
  refine x_ls (ls' := [(0, .ref o0), (1, .int v1), (2, .int v2), (3, .int v3), (4, .int 0), (5, .int 0)]) [2, 3, 4, 5, 1, 0] rfl ?_
  obtain ⟨N12, h⟩ := h
  exact lpt_X2_waysOf_6 hn hG ho0  N12 0 0 h
