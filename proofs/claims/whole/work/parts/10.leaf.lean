abbrev rm_X1_copyFrom : Room := { frames := 1, cells := 0, slots := 0, locals := 48 }
def wp_X1_copyFrom (p0 p1 : Nat) (I : MI) (Q : MI → Prop) : Prop :=
    (∀ I1, I1 = u2 I p0 0 (I p1 0) → (∀ I2, I2 = u2 I1 p0 1 (I1 p1 1) → (∀ I3, I3 = u2 I2 p0 2 (I2 p1 2) → (∀ I4, I4 = u2 I3 p0 3 (I3 p1 3) → (∀ I5, I5 = u2 I4 p0 4 (I4 p1 4) → (∀ I6, I6 = ur I5 (p0 + 1) (va_cpy (I5 (p1 + 1)) (I5 (p0 + 1)) (ix 0) (ix 0) (ix 4)) → (∀ I7, I7 = ur I6 (p0 + 2) (va_cpy (I6 (p1 + 2)) (I6 (p0 + 2)) (ix 0) (ix 0) (ix 4)) → (∀ I8, I8 = ur I7 (p0 + 3) (va_cpy (I7 (p1 + 3)) (I7 (p0 + 3)) (ix 0) (ix 0) (ix 4)) → (∀ I9, I9 = ur I8 (p0 + 4) (va_cpy (I8 (p1 + 4)) (I8 (p0 + 4)) (ix 0) (ix 0) (ix 4)) → (∀ I10, I10 = ur I9 (p0 + 5) (va_cpy (I9 (p1 + 5)) (I9 (p0 + 5)) (ix 0) (ix 0) (ix 4)) → (∀ I11, I11 = ur I10 (p0 + 6) (va_cpy (I10 (p1 + 6)) (I10 (p0 + 6)) (ix 0) (ix 0) (ix 16)) → (∀ I12, I12 = ur I11 (p0 + 7) (va_cpy (I11 (p1 + 7)) (I11 (p0 + 7)) (ix 0) (ix 0) (ix 16)) → (∀ I13, I13 = ur I12 (p0 + 8) (va_cpy (I12 (p1 + 8)) (I12 (p0 + 8)) (ix 0) (ix 0) (ix 16)) → Q I13)))))))))))))
set_option maxRecDepth 20000 in
theorem mt_X1_copyFrom {E : Ev} {l : Launch} {n : Nat} {R : MR} {p0 p1 : Nat} (hn : 336 ≤ n) (hG : GRx R) (hp0 : isPlan p0) (hp1 : isPlan p1) {I : MI} {L : ML} {Q : MI → Prop} (h : wp_X1_copyFrom p0 p1 I Q) : MX E l rm_X1_copyFrom yX1_copyFrom cX1_copyFrom 2 none [.ref p0, .ref p1] n I L R (Qv n R (V10 I L Q)) := by
  refine MX_of (ls := [(0, .ref p0), (1, .ref p1)]) (by decide) (Nat.le_of_ble_eq_true rfl) rfl ?_
  unfold wp_X1_copyFrom at h
  refine x_aload_n dX1_copyFrom_0 rfl ?_
  refine x_aload_n dX1_copyFrom_1 rfl ?_
  refine x_geti dX1_copyFrom_2 fk_RX1_9 (Pn_k hp1 hn 0 rfl) (Pn_s0 hp1) ?_
  refine x_puti dX1_copyFrom_5 fk_RX1_9 fw_1_0 (vp_nar_int _) rfl (Pn_k hp0 hn 0 rfl) (Pn_s0 hp0) (fun I1 eI1 => ?_)
  have h := h I1 eI1
  refine x_aload_n dX1_copyFrom_8 rfl ?_
  refine x_aload_n dX1_copyFrom_9 rfl ?_
  refine x_geti dX1_copyFrom_10 fk_RX1_15 (Pn_k hp1 hn 0 rfl) (Pn_s0 hp1) ?_
  refine x_puti dX1_copyFrom_13 fk_RX1_15 fw_1_1 (vp_nar_int _) rfl (Pn_k hp0 hn 0 rfl) (Pn_s0 hp0) (fun I2 eI2 => ?_)
  have h := h I2 eI2
  refine x_aload_n dX1_copyFrom_16 rfl ?_
  refine x_aload_n dX1_copyFrom_17 rfl ?_
  refine x_geti dX1_copyFrom_18 fk_RX1_18 (Pn_k hp1 hn 0 rfl) (Pn_s0 hp1) ?_
  refine x_puti dX1_copyFrom_21 fk_RX1_18 fw_1_2 (vp_nar_int _) rfl (Pn_k hp0 hn 0 rfl) (Pn_s0 hp0) (fun I3 eI3 => ?_)
  have h := h I3 eI3
  refine x_aload_n dX1_copyFrom_24 rfl ?_
  refine x_aload_n dX1_copyFrom_25 rfl ?_
  refine x_geti dX1_copyFrom_26 fk_RX1_21 (Pn_k hp1 hn 0 rfl) (Pn_s0 hp1) ?_
  refine x_puti dX1_copyFrom_29 fk_RX1_21 fw_1_3 (vp_nar_int _) rfl (Pn_k hp0 hn 0 rfl) (Pn_s0 hp0) (fun I4 eI4 => ?_)
  have h := h I4 eI4
  refine x_aload_n dX1_copyFrom_32 rfl ?_
  refine x_aload_n dX1_copyFrom_33 rfl ?_
  refine x_geti dX1_copyFrom_34 fk_RX1_24 (Pn_k hp1 hn 0 rfl) (Pn_s0 hp1) ?_
  refine x_puti dX1_copyFrom_37 fk_RX1_24 fw_1_4 (vp_nar_int _) rfl (Pn_k hp0 hn 0 rfl) (Pn_s0 hp0) (fun I5 eI5 => ?_)
  have h := h I5 eI5
  refine x_aload_n dX1_copyFrom_40 rfl ?_
  refine x_getr (j := p1 + 1) dX1_copyFrom_41 fk_RX1_27 (Pn_k hp1 hn 0 rfl) (Pn_s0 hp1) (Pn_r5 hG hp1) ?_
  refine x_iconst (v := 0) dX1_copyFrom_44 ki_0 ?_
  refine x_aload_n dX1_copyFrom_45 rfl ?_
  refine x_getr (j := p0 + 1) dX1_copyFrom_46 fk_RX1_27 (Pn_k hp0 hn 0 rfl) (Pn_s0 hp0) (Pn_r5 hG hp0) ?_
  refine x_iconst (v := 0) dX1_copyFrom_49 ki_0 ?_
  refine x_iconst (v := 4) dX1_copyFrom_50 ki_4 ?_
  refine x_copyi dX1_copyFrom_51 lk_RX1_52 (Pn_k hp1 hn 1 rfl) (Pn_s1 hp1) (Pn_k hp0 hn 1 rfl) (Pn_s1 hp0) (by decide) (by decide) (by decide) (by decide) (by decide) ⟨Nat.le_of_ble_eq_true rfl, Nat.le_of_ble_eq_true rfl⟩ (fun I6 eI6 => ?_)
  have h := h I6 eI6
  refine x_aload_n dX1_copyFrom_54 rfl ?_
  refine x_getr (j := p1 + 2) dX1_copyFrom_55 fk_RX1_31 (Pn_k hp1 hn 0 rfl) (Pn_s0 hp1) (Pn_r6 hG hp1) ?_
  refine x_iconst (v := 0) dX1_copyFrom_58 ki_0 ?_
  refine x_aload_n dX1_copyFrom_59 rfl ?_
  refine x_getr (j := p0 + 2) dX1_copyFrom_60 fk_RX1_31 (Pn_k hp0 hn 0 rfl) (Pn_s0 hp0) (Pn_r6 hG hp0) ?_
  refine x_iconst (v := 0) dX1_copyFrom_63 ki_0 ?_
  refine x_iconst (v := 4) dX1_copyFrom_64 ki_4 ?_
  refine x_copyi dX1_copyFrom_65 lk_RX1_52 (Pn_k hp1 hn 2 rfl) (Pn_s2 hp1) (Pn_k hp0 hn 2 rfl) (Pn_s2 hp0) (by decide) (by decide) (by decide) (by decide) (by decide) ⟨Nat.le_of_ble_eq_true rfl, Nat.le_of_ble_eq_true rfl⟩ (fun I7 eI7 => ?_)
  have h := h I7 eI7
  refine x_aload_n dX1_copyFrom_68 rfl ?_
  refine x_getr (j := p1 + 3) dX1_copyFrom_69 fk_RX1_34 (Pn_k hp1 hn 0 rfl) (Pn_s0 hp1) (Pn_r7 hG hp1) ?_
  refine x_iconst (v := 0) dX1_copyFrom_72 ki_0 ?_
  refine x_aload_n dX1_copyFrom_73 rfl ?_
  refine x_getr (j := p0 + 3) dX1_copyFrom_74 fk_RX1_34 (Pn_k hp0 hn 0 rfl) (Pn_s0 hp0) (Pn_r7 hG hp0) ?_
  refine x_iconst (v := 0) dX1_copyFrom_77 ki_0 ?_
  refine x_iconst (v := 4) dX1_copyFrom_78 ki_4 ?_
  refine x_copyi dX1_copyFrom_79 lk_RX1_52 (Pn_k hp1 hn 3 rfl) (Pn_s3 hp1) (Pn_k hp0 hn 3 rfl) (Pn_s3 hp0) (by decide) (by decide) (by decide) (by decide) (by decide) ⟨Nat.le_of_ble_eq_true rfl, Nat.le_of_ble_eq_true rfl⟩ (fun I8 eI8 => ?_)
  have h := h I8 eI8
  refine x_aload_n dX1_copyFrom_82 rfl ?_
  refine x_getr (j := p1 + 4) dX1_copyFrom_83 fk_RX1_37 (Pn_k hp1 hn 0 rfl) (Pn_s0 hp1) (Pn_r8 hG hp1) ?_
  refine x_iconst (v := 0) dX1_copyFrom_86 ki_0 ?_
  refine x_aload_n dX1_copyFrom_87 rfl ?_
  refine x_getr (j := p0 + 4) dX1_copyFrom_88 fk_RX1_37 (Pn_k hp0 hn 0 rfl) (Pn_s0 hp0) (Pn_r8 hG hp0) ?_
  refine x_iconst (v := 0) dX1_copyFrom_91 ki_0 ?_
  refine x_iconst (v := 4) dX1_copyFrom_92 ki_4 ?_
  refine x_copyi dX1_copyFrom_93 lk_RX1_52 (Pn_k hp1 hn 4 rfl) (Pn_s4 hp1) (Pn_k hp0 hn 4 rfl) (Pn_s4 hp0) (by decide) (by decide) (by decide) (by decide) (by decide) ⟨Nat.le_of_ble_eq_true rfl, Nat.le_of_ble_eq_true rfl⟩ (fun I9 eI9 => ?_)
  have h := h I9 eI9
  refine x_aload_n dX1_copyFrom_96 rfl ?_
  refine x_getr (j := p1 + 5) dX1_copyFrom_97 fk_RX1_40 (Pn_k hp1 hn 0 rfl) (Pn_s0 hp1) (Pn_r9 hG hp1) ?_
  refine x_iconst (v := 0) dX1_copyFrom_100 ki_0 ?_
  refine x_aload_n dX1_copyFrom_101 rfl ?_
  refine x_getr (j := p0 + 5) dX1_copyFrom_102 fk_RX1_40 (Pn_k hp0 hn 0 rfl) (Pn_s0 hp0) (Pn_r9 hG hp0) ?_
  refine x_iconst (v := 0) dX1_copyFrom_105 ki_0 ?_
  refine x_iconst (v := 4) dX1_copyFrom_106 ki_4 ?_
  refine x_copyi dX1_copyFrom_107 lk_RX1_52 (Pn_k hp1 hn 5 rfl) (Pn_s5 hp1) (Pn_k hp0 hn 5 rfl) (Pn_s5 hp0) (by decide) (by decide) (by decide) (by decide) (by decide) ⟨Nat.le_of_ble_eq_true rfl, Nat.le_of_ble_eq_true rfl⟩ (fun I10 eI10 => ?_)
  have h := h I10 eI10
  refine x_aload_n dX1_copyFrom_110 rfl ?_
  refine x_getr (j := p1 + 6) dX1_copyFrom_111 fk_RX1_43 (Pn_k hp1 hn 0 rfl) (Pn_s0 hp1) (Pn_r10 hG hp1) ?_
  refine x_iconst (v := 0) dX1_copyFrom_114 ki_0 ?_
  refine x_aload_n dX1_copyFrom_115 rfl ?_
  refine x_getr (j := p0 + 6) dX1_copyFrom_116 fk_RX1_43 (Pn_k hp0 hn 0 rfl) (Pn_s0 hp0) (Pn_r10 hG hp0) ?_
  refine x_iconst (v := 0) dX1_copyFrom_119 ki_0 ?_
  refine x_bipush (v := 16) dX1_copyFrom_120 kb_16 ?_
  refine x_copyi dX1_copyFrom_122 lk_RX1_52 (Pn_k hp1 hn 6 rfl) (Pn_s6 hp1) (Pn_k hp0 hn 6 rfl) (Pn_s6 hp0) (by decide) (by decide) (by decide) (by decide) (by decide) ⟨Nat.le_of_ble_eq_true rfl, Nat.le_of_ble_eq_true rfl⟩ (fun I11 eI11 => ?_)
  have h := h I11 eI11
  refine x_aload_n dX1_copyFrom_125 rfl ?_
  refine x_getr (j := p1 + 7) dX1_copyFrom_126 fk_RX1_46 (Pn_k hp1 hn 0 rfl) (Pn_s0 hp1) (Pn_r11 hG hp1) ?_
  refine x_iconst (v := 0) dX1_copyFrom_129 ki_0 ?_
  refine x_aload_n dX1_copyFrom_130 rfl ?_
  refine x_getr (j := p0 + 7) dX1_copyFrom_131 fk_RX1_46 (Pn_k hp0 hn 0 rfl) (Pn_s0 hp0) (Pn_r11 hG hp0) ?_
  refine x_iconst (v := 0) dX1_copyFrom_134 ki_0 ?_
  refine x_bipush (v := 16) dX1_copyFrom_135 kb_16 ?_
  refine x_copyi dX1_copyFrom_137 lk_RX1_52 (Pn_k hp1 hn 7 rfl) (Pn_s7 hp1) (Pn_k hp0 hn 7 rfl) (Pn_s7 hp0) (by decide) (by decide) (by decide) (by decide) (by decide) ⟨Nat.le_of_ble_eq_true rfl, Nat.le_of_ble_eq_true rfl⟩ (fun I12 eI12 => ?_)
  have h := h I12 eI12
  refine x_aload_n dX1_copyFrom_140 rfl ?_
  refine x_getr (j := p1 + 8) dX1_copyFrom_141 fk_RX1_49 (Pn_k hp1 hn 0 rfl) (Pn_s0 hp1) (Pn_r12 hG hp1) ?_
  refine x_iconst (v := 0) dX1_copyFrom_144 ki_0 ?_
  refine x_aload_n dX1_copyFrom_145 rfl ?_
  refine x_getr (j := p0 + 8) dX1_copyFrom_146 fk_RX1_49 (Pn_k hp0 hn 0 rfl) (Pn_s0 hp0) (Pn_r12 hG hp0) ?_
  refine x_iconst (v := 0) dX1_copyFrom_149 ki_0 ?_
  refine x_bipush (v := 16) dX1_copyFrom_150 kb_16 ?_
  refine x_copyi dX1_copyFrom_152 lk_RX1_52 (Pn_k hp1 hn 8 rfl) (Pn_s8 hp1) (Pn_k hp0 hn 8 rfl) (Pn_s8 hp0) (by decide) (by decide) (by decide) (by decide) (by decide) ⟨Nat.le_of_ble_eq_true rfl, Nat.le_of_ble_eq_true rfl⟩ (fun I13 eI13 => ?_)
  have h := h I13 eI13
  exact x_return dX1_copyFrom_155 ⟨rfl, rfl, rfl, rfl, h⟩
abbrev rm_X4_copyFrom : Room := { frames := 1, cells := 0, slots := 0, locals := 48 }
def wp_X4_copyFrom (r0 N0 r1 N1 : Nat) (I : MI) (L : ML) (Q : MI → ML → Prop) : Prop :=
    (∀ I1, I1 = u2 I r0 1 (if (Int32.ofNat N0) < (I r1 1) then (Int32.ofNat N0) else (I r1 1)) → (¬ (I1 r0 1) < 0 ∧ (ix 0 + ix (I1 r0 1) ≤ N1 ∧ (ix 0 + ix (I1 r0 1) ≤ N0 ∧ (∀ L2, L2 = ur L (r0 + 1) (va_cpy (L (r1 + 1)) (L (r0 + 1)) (ix 0) (ix 0) (ix (I1 r0 1))) → Q I1 L2)))))
set_option maxRecDepth 20000 in
theorem mt_X4_copyFrom {E : Ev} {l : Launch} {n : Nat} {R : MR} {r0 N0 r1 N1 : Nat} (hn : 336 ≤ n) (hG : GRx R) (hr0 : isRow r0 N0) (hr1 : isRow r1 N1) {I : MI} {L : ML} {Q : MI → ML → Prop} (h : wp_X4_copyFrom r0 N0 r1 N1 I L Q) : MX E l rm_X4_copyFrom yX4_copyFrom cX4_copyFrom 2 none [.ref r0, .ref r1] n I L R (Qv n R (V11 I L Q)) := by
  refine MX_of (ls := [(0, .ref r0), (1, .ref r1)]) (by decide) (Nat.le_of_ble_eq_true rfl) rfl ?_
  unfold wp_X4_copyFrom at h
  refine x_aload_n dX4_copyFrom_0 rfl ?_
  refine x_aload_n dX4_copyFrom_1 rfl ?_
  refine x_geti dX4_copyFrom_2 fk_RX4_9 (Rw_k hr1 hn 0 rfl) (Rw_s0 hr1) ?_
  refine x_aload_n dX4_copyFrom_5 rfl ?_
  refine x_getr (j := r0 + 1) dX4_copyFrom_6 fk_RX4_21 (Rw_k hr0 hn 0 rfl) (Rw_s0 hr0) (Rw_r0 hG hr0) ?_
  refine x_alen (v := Int32.ofNat N0) dX4_copyFrom_9 (Rw_k hr0 hn 1 rfl) (Rw_s1 hr0) (by decide) rfl ?_
  refine x_mmin dX4_copyFrom_10 lk_RX4_35 ⟨Nat.le_of_ble_eq_true rfl, Nat.le_of_ble_eq_true rfl, Nat.le_refl _, Nat.le_refl _⟩ ?_
  refine x_puti dX4_copyFrom_13 fk_RX4_9 fw_4_1 (vp_nar_int _) rfl (Rw_k hr0 hn 0 rfl) (Rw_s0 hr0) (fun I1 eI1 => ?_)
  have h := h I1 eI1
  refine x_aload_n dX4_copyFrom_16 rfl ?_
  refine x_getr (j := r1 + 1) dX4_copyFrom_17 fk_RX4_21 (Rw_k hr1 hn 0 rfl) (Rw_s0 hr1) (Rw_r0 hG hr1) ?_
  refine x_iconst (v := 0) dX4_copyFrom_20 ki_0 ?_
  refine x_aload_n dX4_copyFrom_21 rfl ?_
  refine x_getr (j := r0 + 1) dX4_copyFrom_22 fk_RX4_21 (Rw_k hr0 hn 0 rfl) (Rw_s0 hr0) (Rw_r0 hG hr0) ?_
  refine x_iconst (v := 0) dX4_copyFrom_25 ki_0 ?_
  refine x_aload_n dX4_copyFrom_26 rfl ?_
  refine x_geti dX4_copyFrom_27 fk_RX4_9 (Rw_k hr0 hn 0 rfl) (Rw_s0 hr0) ?_
  obtain ⟨b3, h⟩ := h
  obtain ⟨b4, h⟩ := h
  obtain ⟨b5, h⟩ := h
  refine x_copyl dX4_copyFrom_30 lk_RX4_29 (Rw_k hr1 hn 1 rfl) (Rw_s1 hr1) (Rw_k hr0 hn 1 rfl) (Rw_s1 hr0) (by decide) (by decide) b3 b4 b5 ⟨Nat.le_of_ble_eq_true rfl, Nat.le_of_ble_eq_true rfl⟩ (fun L2 eL2 => ?_)
  have h := h L2 eL2
  exact x_return dX4_copyFrom_33 ⟨rfl, rfl, rfl, h⟩
abbrev rm_X1_changePart : Room := { frames := 0, cells := 0, slots := 0, locals := 0 }
def wp_X1_changePart (p0 : Nat) (I : MI) (v1 : Int32) (v2 : Int32) (v3 : Int32) (Q : MI → Prop) : Prop :=
    ((¬ v2 = 0 → ((¬ v2 = 1 → (vp_in v1 4 ∧ (∀ I4, I4 = u2 I (p0 + 3) (ix v1) v3 → Q I4))) ∧ (v2 = 1 → (vp_in v1 4 ∧ (∀ I6, I6 = u2 I (p0 + 2) (ix v1) v3 → Q I6))))) ∧ (v2 = 0 → (vp_in v1 4 ∧ (∀ I8, I8 = u2 I (p0 + 1) (ix v1) v3 → Q I8))))
set_option maxRecDepth 20000 in
theorem mt_X1_changePart {E : Ev} {l : Launch} {n : Nat} {R : MR} {p0 : Nat} (hn : 336 ≤ n) (hG : GRx R) (hp0 : isPlan p0) {I : MI} {L : ML} {v1 : Int32} {v2 : Int32} {v3 : Int32} {Q : MI → Prop} (h : wp_X1_changePart p0 I v1 v2 v3 Q) : MX E l rm_X1_changePart yX1_changePart cX1_changePart 4 none [.ref p0, .int v1, .int v2, .int v3] n I L R (Qv n R (V10 I L Q)) := by
  refine MX_of (ls := [(0, .ref p0), (1, .int v1), (2, .int v2), (3, .int v3)]) (by decide) (Nat.le_of_ble_eq_true rfl) rfl ?_
  unfold wp_X1_changePart at h
  refine x_iload_n dX1_changePart_0 rfl ?_
  refine x_if_ne dX1_changePart_1 (tgt := 14) rfl ⟨fun c1 => ?_, fun c1 => ?_⟩
  · have h := h.1 c1
    refine x_iload_n dX1_changePart_14 rfl ?_
    refine x_iconst (v := 1) dX1_changePart_15 ki_1 ?_
    refine x_icmp_ne dX1_changePart_16 (tgt := 29) rfl ⟨fun c2 => ?_, fun c2 => ?_⟩
    · have h := h.1 c2
      refine x_aload_n dX1_changePart_29 rfl ?_
      refine x_getr (j := p0 + 3) dX1_changePart_30 fk_RX1_34 (Pn_k hp0 hn 0 rfl) (Pn_s0 hp0) (Pn_r7 hG hp0) ?_
      refine x_iload_n dX1_changePart_33 rfl ?_
      refine x_iload_n dX1_changePart_34 rfl ?_
      obtain ⟨b3, h⟩ := h
      refine x_iastore dX1_changePart_35 (Pn_k hp0 hn 3 rfl) (Pn_s3 hp0) b3 (fun I4 eI4 => ?_)
      have h := h I4 eI4
      exact x_return dX1_changePart_36 ⟨rfl, rfl, rfl, rfl, h⟩
    · have h := h.2 c2
      refine x_aload_n dX1_changePart_19 rfl ?_
      refine x_getr (j := p0 + 2) dX1_changePart_20 fk_RX1_31 (Pn_k hp0 hn 0 rfl) (Pn_s0 hp0) (Pn_r6 hG hp0) ?_
      refine x_iload_n dX1_changePart_23 rfl ?_
      refine x_iload_n dX1_changePart_24 rfl ?_
      obtain ⟨b5, h⟩ := h
      refine x_iastore dX1_changePart_25 (Pn_k hp0 hn 2 rfl) (Pn_s2 hp0) b5 (fun I6 eI6 => ?_)
      have h := h I6 eI6
      refine x_goto dX1_changePart_26 (tgt := 36) rfl ?_
      exact x_return dX1_changePart_36 ⟨rfl, rfl, rfl, rfl, h⟩
  · have h := h.2 c1
    refine x_aload_n dX1_changePart_4 rfl ?_
    refine x_getr (j := p0 + 1) dX1_changePart_5 fk_RX1_27 (Pn_k hp0 hn 0 rfl) (Pn_s0 hp0) (Pn_r5 hG hp0) ?_
    refine x_iload_n dX1_changePart_8 rfl ?_
    refine x_iload_n dX1_changePart_9 rfl ?_
    obtain ⟨b7, h⟩ := h
    refine x_iastore dX1_changePart_10 (Pn_k hp0 hn 1 rfl) (Pn_s1 hp0) b7 (fun I8 eI8 => ?_)
    have h := h I8 eI8
    refine x_goto dX1_changePart_11 (tgt := 36) rfl ?_
    exact x_return dX1_changePart_36 ⟨rfl, rfl, rfl, rfl, h⟩
abbrev rm_X1_clear : Room := { frames := 0, cells := 0, slots := 0, locals := 0 }
def lp_X1_clear_27 (p0 : Nat) (kf73 : MI → Prop) : Nat → Int32 → MI → Prop
  | 0, _, _ => False
  | n + 1, v1, I =>
    ((4 ≤ v1 → kf73 I) ∧ (¬ 4 ≤ v1 → (vp_in v1 4 ∧ (∀ I8, I8 = u2 I (p0 + 1) (ix v1) 0 → (vp_in v1 4 ∧ (∀ I10, I10 = u2 I8 (p0 + 2) (ix v1) 0 → (vp_in v1 4 ∧ (∀ I12, I12 = u2 I10 (p0 + 3) (ix v1) 0 → (vp_in v1 4 ∧ (∀ I14, I14 = u2 I12 (p0 + 4) (ix v1) 0 → (vp_in v1 4 ∧ (∀ I16, I16 = u2 I14 (p0 + 5) (ix v1) 0 → (lp_X1_clear_27 p0 kf73 n (v1 + 1) I16)))))))))))))
set_option maxRecDepth 20000 in
theorem lpt_X1_clear_27 {E : Ev} {l : Launch} {n : Nat} {R : MR} {p0 : Nat} (hn : 336 ≤ n) (hG : GRx R) (hp0 : isPlan p0) {I0 : MI} {Q : MI → Prop} {L : ML} {kf73 : MI → Prop}
    (hK73 : ∀ (I : MI), kf73 I → X E l rm_X1_clear yX1_clear cX1_clear 2 none noX (ZM E rm_X1_clear (Qv n R (V10 I0 L Q))) 73 [(0, .ref p0)] [] n I L R 0 0) : ∀ (N : Nat) (v1 : Int32) (I : MI), lp_X1_clear_27 p0 kf73 N v1 I → X E l rm_X1_clear yX1_clear cX1_clear 2 none noX (ZM E rm_X1_clear (Qv n R (V10 I0 L Q))) 27 [(0, .ref p0), (1, .int v1)] [] n I L R 0 0 := by
  intro N
  induction N with
  | zero => intro v1 I h; exact False.elim h
  | succ N ih =>
    intro v1 I h
    unfold lp_X1_clear_27 at h
    refine x_iload_n dX1_clear_27 rfl ?_
    refine x_iconst (v := 4) dX1_clear_28 ki_4 ?_
    refine x_icmp_ge dX1_clear_29 (tgt := 73) rfl ⟨fun c6 => ?_, fun c6 => ?_⟩
    · have h := h.1 c6
      refine x_ls (ls' := [(0, .ref p0)]) [0] rfl ?_
      exact hK73 I h
    · have h := h.2 c6
      refine x_aload_n dX1_clear_32 rfl ?_
      refine x_getr (j := p0 + 1) dX1_clear_33 fk_RX1_27 (Pn_k hp0 hn 0 rfl) (Pn_s0 hp0) (Pn_r5 hG hp0) ?_
      refine x_iload_n dX1_clear_36 rfl ?_
      refine x_iconst (v := 0) dX1_clear_37 ki_0 ?_
      obtain ⟨b7, h⟩ := h
      refine x_iastore dX1_clear_38 (Pn_k hp0 hn 1 rfl) (Pn_s1 hp0) b7 (fun I8 eI8 => ?_)
      have h := h I8 eI8
      refine x_aload_n dX1_clear_39 rfl ?_
      refine x_getr (j := p0 + 2) dX1_clear_40 fk_RX1_31 (Pn_k hp0 hn 0 rfl) (Pn_s0 hp0) (Pn_r6 hG hp0) ?_
      refine x_iload_n dX1_clear_43 rfl ?_
      refine x_iconst (v := 0) dX1_clear_44 ki_0 ?_
      obtain ⟨b9, h⟩ := h
      refine x_iastore dX1_clear_45 (Pn_k hp0 hn 2 rfl) (Pn_s2 hp0) b9 (fun I10 eI10 => ?_)
      have h := h I10 eI10
      refine x_aload_n dX1_clear_46 rfl ?_
      refine x_getr (j := p0 + 3) dX1_clear_47 fk_RX1_34 (Pn_k hp0 hn 0 rfl) (Pn_s0 hp0) (Pn_r7 hG hp0) ?_
      refine x_iload_n dX1_clear_50 rfl ?_
      refine x_iconst (v := 0) dX1_clear_51 ki_0 ?_
      obtain ⟨b11, h⟩ := h
      refine x_iastore dX1_clear_52 (Pn_k hp0 hn 3 rfl) (Pn_s3 hp0) b11 (fun I12 eI12 => ?_)
      have h := h I12 eI12
      refine x_aload_n dX1_clear_53 rfl ?_
      refine x_getr (j := p0 + 4) dX1_clear_54 fk_RX1_37 (Pn_k hp0 hn 0 rfl) (Pn_s0 hp0) (Pn_r8 hG hp0) ?_
      refine x_iload_n dX1_clear_57 rfl ?_
      refine x_iconst (v := 0) dX1_clear_58 ki_0 ?_
      obtain ⟨b13, h⟩ := h
      refine x_iastore dX1_clear_59 (Pn_k hp0 hn 4 rfl) (Pn_s4 hp0) b13 (fun I14 eI14 => ?_)
      have h := h I14 eI14
      refine x_aload_n dX1_clear_60 rfl ?_
      refine x_getr (j := p0 + 5) dX1_clear_61 fk_RX1_40 (Pn_k hp0 hn 0 rfl) (Pn_s0 hp0) (Pn_r9 hG hp0) ?_
      refine x_iload_n dX1_clear_64 rfl ?_
      refine x_iconst (v := 0) dX1_clear_65 ki_0 ?_
      obtain ⟨b15, h⟩ := h
      refine x_iastore dX1_clear_66 (Pn_k hp0 hn 5 rfl) (Pn_s5 hp0) b15 (fun I16 eI16 => ?_)
      have h := h I16 eI16
      refine x_iinc (v := v1 + 1) (ls' := [(1, .int (v1 + 1)), (0, .ref p0)]) dX1_clear_67 rfl (congrArg (_ + ·) ki_1) (Nat.le_of_ble_eq_true rfl) rfl ?_
      refine x_goto dX1_clear_70 (tgt := 27) rfl ?_
      refine x_ls (ls' := [(0, .ref p0), (1, .int (v1 + 1))]) [1, 0] rfl ?_
      exact ih (v1 + 1) I16 h
def lp_X1_clear_75 (p0 : Nat) (Q : MI → Prop) : Nat → Int32 → MI → Prop
  | 0, _, _ => False
  | n + 1, v1, I =>
    ((16 ≤ v1 → Q I) ∧ (¬ 16 ≤ v1 → (vp_in v1 16 ∧ (∀ I21, I21 = u2 I (p0 + 6) (ix v1) 0 → (vp_in v1 16 ∧ (∀ I23, I23 = u2 I21 (p0 + 7) (ix v1) 0 → (vp_in v1 16 ∧ (∀ I25, I25 = u2 I23 (p0 + 8) (ix v1) 0 → (lp_X1_clear_75 p0 Q n (v1 + 1) I25)))))))))
set_option maxRecDepth 20000 in
theorem lpt_X1_clear_75 {E : Ev} {l : Launch} {n : Nat} {R : MR} {p0 : Nat} (hn : 336 ≤ n) (hG : GRx R) (hp0 : isPlan p0) {I0 : MI} {Q : MI → Prop} {L : ML} : ∀ (N : Nat) (v1 : Int32) (I : MI), lp_X1_clear_75 p0 Q N v1 I → X E l rm_X1_clear yX1_clear cX1_clear 2 none noX (ZM E rm_X1_clear (Qv n R (V10 I0 L Q))) 75 [(0, .ref p0), (1, .int v1)] [] n I L R 0 0 := by
  intro N
  induction N with
  | zero => intro v1 I h; exact False.elim h
  | succ N ih =>
    intro v1 I h
    unfold lp_X1_clear_75 at h
    refine x_iload_n dX1_clear_75 rfl ?_
    refine x_bipush (v := 16) dX1_clear_76 kb_16 ?_
    refine x_icmp_ge dX1_clear_78 (tgt := 108) rfl ⟨fun c19 => ?_, fun c19 => ?_⟩
    · have h := h.1 c19
      exact x_return dX1_clear_108 ⟨rfl, rfl, rfl, rfl, h⟩
    · have h := h.2 c19
      refine x_aload_n dX1_clear_81 rfl ?_
      refine x_getr (j := p0 + 6) dX1_clear_82 fk_RX1_43 (Pn_k hp0 hn 0 rfl) (Pn_s0 hp0) (Pn_r10 hG hp0) ?_
      refine x_iload_n dX1_clear_85 rfl ?_
      refine x_iconst (v := 0) dX1_clear_86 ki_0 ?_
      obtain ⟨b20, h⟩ := h
      refine x_iastore dX1_clear_87 (Pn_k hp0 hn 6 rfl) (Pn_s6 hp0) b20 (fun I21 eI21 => ?_)
      have h := h I21 eI21
      refine x_aload_n dX1_clear_88 rfl ?_
      refine x_getr (j := p0 + 7) dX1_clear_89 fk_RX1_46 (Pn_k hp0 hn 0 rfl) (Pn_s0 hp0) (Pn_r11 hG hp0) ?_
      refine x_iload_n dX1_clear_92 rfl ?_
      refine x_iconst (v := 0) dX1_clear_93 ki_0 ?_
      obtain ⟨b22, h⟩ := h
      refine x_iastore dX1_clear_94 (Pn_k hp0 hn 7 rfl) (Pn_s7 hp0) b22 (fun I23 eI23 => ?_)
      have h := h I23 eI23
      refine x_aload_n dX1_clear_95 rfl ?_
      refine x_getr (j := p0 + 8) dX1_clear_96 fk_RX1_49 (Pn_k hp0 hn 0 rfl) (Pn_s0 hp0) (Pn_r12 hG hp0) ?_
      refine x_iload_n dX1_clear_99 rfl ?_
      refine x_iconst (v := 0) dX1_clear_100 ki_0 ?_
      obtain ⟨b24, h⟩ := h
      refine x_iastore dX1_clear_101 (Pn_k hp0 hn 8 rfl) (Pn_s8 hp0) b24 (fun I25 eI25 => ?_)
      have h := h I25 eI25
      refine x_iinc (v := v1 + 1) (ls' := [(1, .int (v1 + 1)), (0, .ref p0)]) dX1_clear_102 rfl (congrArg (_ + ·) ki_1) (Nat.le_of_ble_eq_true rfl) rfl ?_
      refine x_goto dX1_clear_105 (tgt := 75) rfl ?_
      refine x_ls (ls' := [(0, .ref p0), (1, .int (v1 + 1))]) [1, 0] rfl ?_
      exact ih (v1 + 1) I25 h
def wp_X1_clear (p0 : Nat) (I : MI) (Q : MI → Prop) : Prop :=
    (∀ I1, I1 = u2 I p0 0 0 → (∀ I2, I2 = u2 I1 p0 1 0 → (∀ I3, I3 = u2 I2 p0 2 1 → (∀ I4, I4 = u2 I3 p0 3 0 → (∀ I5, I5 = u2 I4 p0 4 0 → (∃ N17, lp_X1_clear_27 p0 (fun I18 => (∃ N26, lp_X1_clear_75 p0 Q N26 0 I18)) N17 0 I5))))))
set_option maxRecDepth 20000 in
theorem mt_X1_clear {E : Ev} {l : Launch} {n : Nat} {R : MR} {p0 : Nat} (hn : 336 ≤ n) (hG : GRx R) (hp0 : isPlan p0) {I : MI} {L : ML} {Q : MI → Prop} (h : wp_X1_clear p0 I Q) : MX E l rm_X1_clear yX1_clear cX1_clear 2 none [.ref p0] n I L R (Qv n R (V10 I L Q)) := by
  refine MX_of (ls := [(0, .ref p0)]) (by decide) (Nat.le_of_ble_eq_true rfl) rfl ?_
  unfold wp_X1_clear at h
  refine x_aload_n dX1_clear_0 rfl ?_
  refine x_iconst (v := 0) dX1_clear_1 ki_0 ?_
  refine x_puti dX1_clear_2 fk_RX1_9 fw_1_0 (vp_nar_int _) rfl (Pn_k hp0 hn 0 rfl) (Pn_s0 hp0) (fun I1 eI1 => ?_)
  have h := h I1 eI1
  refine x_aload_n dX1_clear_5 rfl ?_
  refine x_iconst (v := 0) dX1_clear_6 ki_0 ?_
  refine x_puti dX1_clear_7 fk_RX1_15 fw_1_1 (vp_nar_int _) rfl (Pn_k hp0 hn 0 rfl) (Pn_s0 hp0) (fun I2 eI2 => ?_)
  have h := h I2 eI2
  refine x_aload_n dX1_clear_10 rfl ?_
  refine x_iconst (v := 1) dX1_clear_11 ki_1 ?_
  refine x_puti dX1_clear_12 fk_RX1_18 fw_1_2 (vp_nar_int _) rfl (Pn_k hp0 hn 0 rfl) (Pn_s0 hp0) (fun I3 eI3 => ?_)
  have h := h I3 eI3
  refine x_aload_n dX1_clear_15 rfl ?_
  refine x_iconst (v := 0) dX1_clear_16 ki_0 ?_
  refine x_puti dX1_clear_17 fk_RX1_21 fw_1_3 (vp_nar_int _) rfl (Pn_k hp0 hn 0 rfl) (Pn_s0 hp0) (fun I4 eI4 => ?_)
  have h := h I4 eI4
  refine x_aload_n dX1_clear_20 rfl ?_
  refine x_iconst (v := 0) dX1_clear_21 ki_0 ?_
  refine x_puti dX1_clear_22 fk_RX1_24 fw_1_4 (vp_nar_int _) rfl (Pn_k hp0 hn 0 rfl) (Pn_s0 hp0) (fun I5 eI5 => ?_)
  have h := h I5 eI5
  refine x_iconst (v := 0) dX1_clear_25 ki_0 ?_
  refine x_istore_n (ls' := [(1, .int 0), (0, .ref p0)]) dX1_clear_26 (Nat.le_of_ble_eq_true rfl) rfl ?_
  refine x_ls (ls' := [(0, .ref p0), (1, .int 0)]) [1, 0] rfl ?_
  obtain ⟨N17, h⟩ := h
  refine lpt_X1_clear_27 hn hG hp0 (fun I18 h => ?_) N17 0 I5 h
  refine x_iconst (v := 0) dX1_clear_73 ki_0 ?_
  refine x_istore_n (ls' := [(1, .int 0), (0, .ref p0)]) dX1_clear_74 (Nat.le_of_ble_eq_true rfl) rfl ?_
  refine x_ls (ls' := [(0, .ref p0), (1, .int 0)]) [1, 0] rfl ?_
  obtain ⟨N26, h⟩ := h
  exact lpt_X1_clear_75 hn hG hp0  N26 0 I18 h
abbrev rm_X1_hasBase : Room := { frames := 0, cells := 0, slots := 0, locals := 0 }
def wp_X1_hasBase (p0 : Nat) (I : MI) (v1 : Int32) (Q : Int32 → Prop) : Prop :=
    ((v1 < 0 → Q 0) ∧ (¬ v1 < 0 → (((I p0 1) ≤ v1 → Q 0) ∧ (¬ (I p0 1) ≤ v1 → Q 1))))
set_option maxRecDepth 20000 in
theorem mt_X1_hasBase {E : Ev} {l : Launch} {n : Nat} {R : MR} {p0 : Nat} (hn : 336 ≤ n) (hG : GRx R) (hp0 : isPlan p0) {I : MI} {L : ML} {v1 : Int32} {Q : Int32 → Prop} (h : wp_X1_hasBase p0 I v1 Q) : MX E l rm_X1_hasBase yX1_hasBase cX1_hasBase 2 (some .boolean) [.ref p0, .int v1] n I L R (Qi n R (P00 I L Q)) := by
  refine MX_of (ls := [(0, .ref p0), (1, .int v1)]) (by decide) (Nat.le_of_ble_eq_true rfl) rfl ?_
  unfold wp_X1_hasBase at h
  refine x_iload_n dX1_hasBase_0 rfl ?_
  refine x_if_lt dX1_hasBase_1 (tgt := 16) rfl ⟨fun c1 => ?_, fun c1 => ?_⟩
  · have h := h.1 c1
    refine x_iconst (v := 0) dX1_hasBase_16 ki_0 ?_
    exact x_zreturn dX1_hasBase_17 rfl ⟨_, rfl, rfl, rfl, rfl, rfl, h⟩
  · have h := h.2 c1
    refine x_iload_n dX1_hasBase_4 rfl ?_
    refine x_aload_n dX1_hasBase_5 rfl ?_
    refine x_geti dX1_hasBase_6 fk_RX1_15 (Pn_k hp0 hn 0 rfl) (Pn_s0 hp0) ?_
    refine x_icmp_ge dX1_hasBase_9 (tgt := 16) rfl ⟨fun c2 => ?_, fun c2 => ?_⟩
    · have h := h.1 c2
      refine x_iconst (v := 0) dX1_hasBase_16 ki_0 ?_
      exact x_zreturn dX1_hasBase_17 rfl ⟨_, rfl, rfl, rfl, rfl, rfl, h⟩
    · have h := h.2 c2
      refine x_iconst (v := 1) dX1_hasBase_12 ki_1 ?_
      refine x_goto dX1_hasBase_13 (tgt := 17) rfl ?_
      exact x_zreturn dX1_hasBase_17 rfl ⟨_, rfl, rfl, rfl, rfl, rfl, h⟩
abbrev rm_X1_hasPart : Room := { frames := 0, cells := 0, slots := 0, locals := 0 }
def wp_X1_hasPart (p0 : Nat) (I : MI) (v1 : Int32) (Q : Int32 → Prop) : Prop :=
    ((v1 < 0 → Q 0) ∧ (¬ v1 < 0 → (((I p0 0) ≤ v1 → Q 0) ∧ (¬ (I p0 0) ≤ v1 → Q 1))))
set_option maxRecDepth 20000 in
theorem mt_X1_hasPart {E : Ev} {l : Launch} {n : Nat} {R : MR} {p0 : Nat} (hn : 336 ≤ n) (hG : GRx R) (hp0 : isPlan p0) {I : MI} {L : ML} {v1 : Int32} {Q : Int32 → Prop} (h : wp_X1_hasPart p0 I v1 Q) : MX E l rm_X1_hasPart yX1_hasPart cX1_hasPart 2 (some .boolean) [.ref p0, .int v1] n I L R (Qi n R (P00 I L Q)) := by
  refine MX_of (ls := [(0, .ref p0), (1, .int v1)]) (by decide) (Nat.le_of_ble_eq_true rfl) rfl ?_
  unfold wp_X1_hasPart at h
  refine x_iload_n dX1_hasPart_0 rfl ?_
  refine x_if_lt dX1_hasPart_1 (tgt := 16) rfl ⟨fun c1 => ?_, fun c1 => ?_⟩
  · have h := h.1 c1
    refine x_iconst (v := 0) dX1_hasPart_16 ki_0 ?_
    exact x_zreturn dX1_hasPart_17 rfl ⟨_, rfl, rfl, rfl, rfl, rfl, h⟩
  · have h := h.2 c1
    refine x_iload_n dX1_hasPart_4 rfl ?_
    refine x_aload_n dX1_hasPart_5 rfl ?_
    refine x_geti dX1_hasPart_6 fk_RX1_9 (Pn_k hp0 hn 0 rfl) (Pn_s0 hp0) ?_
    refine x_icmp_ge dX1_hasPart_9 (tgt := 16) rfl ⟨fun c2 => ?_, fun c2 => ?_⟩
    · have h := h.1 c2
      refine x_iconst (v := 0) dX1_hasPart_16 ki_0 ?_
      exact x_zreturn dX1_hasPart_17 rfl ⟨_, rfl, rfl, rfl, rfl, rfl, h⟩
    · have h := h.2 c2
      refine x_iconst (v := 1) dX1_hasPart_12 ki_1 ?_
      refine x_goto dX1_hasPart_13 (tgt := 17) rfl ?_
      exact x_zreturn dX1_hasPart_17 rfl ⟨_, rfl, rfl, rfl, rfl, rfl, h⟩
abbrev rm_X1_hasCell : Room := { frames := 1, cells := 0, slots := 0, locals := 21 }
def wp_X1_hasCell (p0 : Nat) (I : MI) (v1 : Int32) (v2 : Int32) (Q : Int32 → Prop) : Prop :=
    (wp_X1_hasBase p0 I v1 (fun x1 => (((x1 = 0 → Q 0) ∧ (¬ x1 = 0 → (wp_X1_hasPart p0 I v2 (fun x3 => (((x3 = 0 → Q 0) ∧ (¬ x3 = 0 → Q 1))))))))))
set_option maxRecDepth 20000 in
theorem mt_X1_hasCell {E : Ev} {l : Launch} {n : Nat} {R : MR} {p0 : Nat} (hn : 336 ≤ n) (hG : GRx R) (hp0 : isPlan p0) {I : MI} {L : ML} {v1 : Int32} {v2 : Int32} {Q : Int32 → Prop} (h : wp_X1_hasCell p0 I v1 v2 Q) : MX E l rm_X1_hasCell yX1_hasCell cX1_hasCell 3 (some .boolean) [.ref p0, .int v1, .int v2] n I L R (Qi n R (P00 I L Q)) := by
  refine MX_of (ls := [(0, .ref p0), (1, .int v1), (2, .int v2)]) (by decide) (Nat.le_of_ble_eq_true rfl) rfl ?_
  unfold wp_X1_hasCell at h
  refine x_aload_n dX1_hasCell_0 rfl ?_
  refine x_iload_n dX1_hasCell_1 rfl ?_
  refine x_cVi00 [.int v1] (mt_X1_hasBase hn hG hp0 h) dX1_hasCell_2 lk_RX1_58 (Pn_k hp0 hn 0 rfl) (Pn_s0 hp0) rfl rfl (Nat.le_of_ble_eq_true rfl) (Rf_of rfl) (fun x1 h => ?_)
  refine x_if_eq dX1_hasCell_5 (tgt := 20) rfl ⟨fun c2 => ?_, fun c2 => ?_⟩
  · have h := h.1 c2
    refine x_iconst (v := 0) dX1_hasCell_20 ki_0 ?_
    exact x_zreturn dX1_hasCell_21 rfl ⟨_, rfl, rfl, rfl, rfl, rfl, h⟩
  · have h := h.2 c2
    refine x_aload_n dX1_hasCell_8 rfl ?_
    refine x_iload_n dX1_hasCell_9 rfl ?_
    refine x_cVi00 [.int v2] (mt_X1_hasPart hn hG hp0 h) dX1_hasCell_10 lk_RX1_62 (Pn_k hp0 hn 0 rfl) (Pn_s0 hp0) rfl rfl (Nat.le_of_ble_eq_true rfl) (Rf_of rfl) (fun x3 h => ?_)
    refine x_if_eq dX1_hasCell_13 (tgt := 20) rfl ⟨fun c4 => ?_, fun c4 => ?_⟩
    · have h := h.1 c4
      refine x_iconst (v := 0) dX1_hasCell_20 ki_0 ?_
      exact x_zreturn dX1_hasCell_21 rfl ⟨_, rfl, rfl, rfl, rfl, rfl, h⟩
    · have h := h.2 c4
      refine x_iconst (v := 1) dX1_hasCell_16 ki_1 ?_
      refine x_goto dX1_hasCell_17 (tgt := 21) rfl ?_
      exact x_zreturn dX1_hasCell_21 rfl ⟨_, rfl, rfl, rfl, rfl, rfl, h⟩
abbrev rm_X1_ofPart : Room := { frames := 0, cells := 0, slots := 0, locals := 0 }
def wp_X1_ofPart (p0 : Nat) (I : MI) (v1 : Int32) (v2 : Int32) (Q : Int32 → Prop) : Prop :=
    ((¬ v2 = 0 → ((¬ v2 = 1 → (vp_in v1 4 ∧ Q (I (p0 + 3) (ix v1)))) ∧ (v2 = 1 → (vp_in v1 4 ∧ Q (I (p0 + 2) (ix v1)))))) ∧ (v2 = 0 → (vp_in v1 4 ∧ Q (I (p0 + 1) (ix v1)))))
set_option maxRecDepth 20000 in
theorem mt_X1_ofPart {E : Ev} {l : Launch} {n : Nat} {R : MR} {p0 : Nat} (hn : 336 ≤ n) (hG : GRx R) (hp0 : isPlan p0) {I : MI} {L : ML} {v1 : Int32} {v2 : Int32} {Q : Int32 → Prop} (h : wp_X1_ofPart p0 I v1 v2 Q) : MX E l rm_X1_ofPart yX1_ofPart cX1_ofPart 3 (some .int) [.ref p0, .int v1, .int v2] n I L R (Qi n R (P00 I L Q)) := by
  refine MX_of (ls := [(0, .ref p0), (1, .int v1), (2, .int v2)]) (by decide) (Nat.le_of_ble_eq_true rfl) rfl ?_
  unfold wp_X1_ofPart at h
  refine x_iload_n dX1_ofPart_0 rfl ?_
  refine x_if_ne dX1_ofPart_1 (tgt := 13) rfl ⟨fun c1 => ?_, fun c1 => ?_⟩
  · have h := h.1 c1
    refine x_iload_n dX1_ofPart_13 rfl ?_
    refine x_iconst (v := 1) dX1_ofPart_14 ki_1 ?_
    refine x_icmp_ne dX1_ofPart_15 (tgt := 27) rfl ⟨fun c2 => ?_, fun c2 => ?_⟩
    · have h := h.1 c2
      refine x_aload_n dX1_ofPart_27 rfl ?_
      refine x_getr (j := p0 + 3) dX1_ofPart_28 fk_RX1_34 (Pn_k hp0 hn 0 rfl) (Pn_s0 hp0) (Pn_r7 hG hp0) ?_
      refine x_iload_n dX1_ofPart_31 rfl ?_
      obtain ⟨b3, h⟩ := h
      refine x_iaload dX1_ofPart_32 (Pn_k hp0 hn 3 rfl) (Pn_s3 hp0) b3 ?_
      exact x_ireturn dX1_ofPart_33 ⟨_, rfl, rfl, rfl, rfl, rfl, h⟩
    · have h := h.2 c2
      refine x_aload_n dX1_ofPart_18 rfl ?_
      refine x_getr (j := p0 + 2) dX1_ofPart_19 fk_RX1_31 (Pn_k hp0 hn 0 rfl) (Pn_s0 hp0) (Pn_r6 hG hp0) ?_
      refine x_iload_n dX1_ofPart_22 rfl ?_
      obtain ⟨b4, h⟩ := h
      refine x_iaload dX1_ofPart_23 (Pn_k hp0 hn 2 rfl) (Pn_s2 hp0) b4 ?_
      refine x_goto dX1_ofPart_24 (tgt := 33) rfl ?_
      exact x_ireturn dX1_ofPart_33 ⟨_, rfl, rfl, rfl, rfl, rfl, h⟩
  · have h := h.2 c1
    refine x_aload_n dX1_ofPart_4 rfl ?_
    refine x_getr (j := p0 + 1) dX1_ofPart_5 fk_RX1_27 (Pn_k hp0 hn 0 rfl) (Pn_s0 hp0) (Pn_r5 hG hp0) ?_
    refine x_iload_n dX1_ofPart_8 rfl ?_
    obtain ⟨b5, h⟩ := h
    refine x_iaload dX1_ofPart_9 (Pn_k hp0 hn 1 rfl) (Pn_s1 hp0) b5 ?_
    refine x_goto dX1_ofPart_10 (tgt := 33) rfl ?_
    exact x_ireturn dX1_ofPart_33 ⟨_, rfl, rfl, rfl, rfl, rfl, h⟩
abbrev rm_X4_insertInOrder : Room := { frames := 0, cells := 0, slots := 0, locals := 0 }
def lp_X4_insertInOrder_18 (r0 N0 : Nat) (v1 : Int64) (kf55 : Int32 → ML → Prop) : Nat → Int32 → ML → Prop
  | 0, _, _ => False
  | n + 1, v3, L =>
    ((v3 ≤ 0 → kf55 v3 L) ∧ (¬ v3 ≤ 0 → (vp_in (v3 - 1) N0 ∧ (((lg_cmp (L (r0 + 1) (ix (v3 - 1))) v1) ≤ 0 → kf55 v3 L) ∧ (¬ (lg_cmp (L (r0 + 1) (ix (v3 - 1))) v1) ≤ 0 → (vp_in (v3 - 1) N0 ∧ (vp_in v3 N0 ∧ (∀ L7, L7 = u2 L (r0 + 1) (ix v3) (L (r0 + 1) (ix (v3 - 1))) → (lp_X4_insertInOrder_18 r0 N0 v1 kf55 n (v3 + (-1)) L7)))))))))
set_option maxRecDepth 20000 in
theorem lpt_X4_insertInOrder_18 {E : Ev} {l : Launch} {n : Nat} {R : MR} {r0 N0 : Nat} (hn : 336 ≤ n) (hG : GRx R) (hr0 : isRow r0 N0) {I0 : MI} {L0 : ML} {Q : MI → ML → Prop} {I : MI} {v1 : Int64} {kf55 : Int32 → ML → Prop}
    (hK55 : ∀ (v3 : Int32) (L : ML), kf55 v3 L → X E l rm_X4_insertInOrder yX4_insertInOrder cX4_insertInOrder 4 none noX (ZM E rm_X4_insertInOrder (Qv n R (V11 I0 L0 Q))) 55 [(0, .ref r0), (1, .long v1), (3, .int v3)] [] n I L R 0 0) : ∀ (N : Nat) (v3 : Int32) (L : ML), lp_X4_insertInOrder_18 r0 N0 v1 kf55 N v3 L → X E l rm_X4_insertInOrder yX4_insertInOrder cX4_insertInOrder 4 none noX (ZM E rm_X4_insertInOrder (Qv n R (V11 I0 L0 Q))) 18 [(0, .ref r0), (1, .long v1), (3, .int v3)] [] n I L R 0 0 := by
  intro N
  induction N with
  | zero => intro v3 L h; exact False.elim h
  | succ N ih =>
    intro v3 L h
    unfold lp_X4_insertInOrder_18 at h
    refine x_iload_n dX4_insertInOrder_18 rfl ?_
    refine x_if_le dX4_insertInOrder_19 (tgt := 55) rfl ⟨fun c2 => ?_, fun c2 => ?_⟩
    · have h := h.1 c2
      exact hK55 v3 L h
    · have h := h.2 c2
      refine x_aload_n dX4_insertInOrder_22 rfl ?_
      refine x_getr (j := r0 + 1) dX4_insertInOrder_23 fk_RX4_21 (Rw_k hr0 hn 0 rfl) (Rw_s0 hr0) (Rw_r0 hG hr0) ?_
      refine x_iload_n dX4_insertInOrder_26 rfl ?_
      refine x_iconst (v := 1) dX4_insertInOrder_27 ki_1 ?_
      refine x_isub dX4_insertInOrder_28 ?_
      obtain ⟨b3, h⟩ := h
      refine x_laload dX4_insertInOrder_29 (Rw_k hr0 hn 1 rfl) (Rw_s1 hr0) b3 ?_
      refine x_lload_n dX4_insertInOrder_30 rfl ?_
      refine x_lcmp dX4_insertInOrder_31 ?_
      refine x_if_le dX4_insertInOrder_32 (tgt := 55) rfl ⟨fun c4 => ?_, fun c4 => ?_⟩
      · have h := h.1 c4
        exact hK55 v3 L h
      · have h := h.2 c4
        refine x_aload_n dX4_insertInOrder_35 rfl ?_
        refine x_getr (j := r0 + 1) dX4_insertInOrder_36 fk_RX4_21 (Rw_k hr0 hn 0 rfl) (Rw_s0 hr0) (Rw_r0 hG hr0) ?_
        refine x_iload_n dX4_insertInOrder_39 rfl ?_
        refine x_aload_n dX4_insertInOrder_40 rfl ?_
        refine x_getr (j := r0 + 1) dX4_insertInOrder_41 fk_RX4_21 (Rw_k hr0 hn 0 rfl) (Rw_s0 hr0) (Rw_r0 hG hr0) ?_
        refine x_iload_n dX4_insertInOrder_44 rfl ?_
        refine x_iconst (v := 1) dX4_insertInOrder_45 ki_1 ?_
        refine x_isub dX4_insertInOrder_46 ?_
        obtain ⟨b5, h⟩ := h
        refine x_laload dX4_insertInOrder_47 (Rw_k hr0 hn 1 rfl) (Rw_s1 hr0) b5 ?_
        obtain ⟨b6, h⟩ := h
        refine x_lastore dX4_insertInOrder_48 (Rw_k hr0 hn 1 rfl) (Rw_s1 hr0) b6 (fun L7 eL7 => ?_)
        have h := h L7 eL7
        refine x_iinc (v := v3 + (-1)) (ls' := [(3, .int (v3 + (-1))), (0, .ref r0), (1, .long v1)]) dX4_insertInOrder_49 rfl (congrArg (_ + ·) ki_m1) (Nat.le_of_ble_eq_true rfl) rfl ?_
        refine x_goto dX4_insertInOrder_52 (tgt := 18) rfl ?_
        refine x_ls (ls' := [(0, .ref r0), (1, .long v1), (3, .int (v3 + (-1)))]) [1, 2, 0] rfl ?_
        exact ih (v3 + (-1)) L7 h
def jn_X4_insertInOrder_55 (r0 N0 : Nat) (I : MI) (L : ML) (v1 : Int64) (v3 : Int32) (Q : MI → ML → Prop) : Prop :=
    (vp_in v3 N0 ∧ (∀ L12, L12 = u2 L (r0 + 1) (ix v3) v1 → (∀ I13, I13 = u2 I r0 1 ((I r0 1) + 1) → Q I13 L12)))
set_option maxRecDepth 20000 in
theorem jnt_X4_insertInOrder_55 {E : Ev} {l : Launch} {n : Nat} {R : MR} {r0 N0 : Nat} (hn : 336 ≤ n) (hG : GRx R) (hr0 : isRow r0 N0) {I0 : MI} {L0 : ML} {Q : MI → ML → Prop} {I : MI} {L : ML} {v1 : Int64} {v3 : Int32} (h : jn_X4_insertInOrder_55 r0 N0 I L v1 v3 Q) : X E l rm_X4_insertInOrder yX4_insertInOrder cX4_insertInOrder 4 none noX (ZM E rm_X4_insertInOrder (Qv n R (V11 I0 L0 Q))) 55 [(0, .ref r0), (1, .long v1), (3, .int v3)] [] n I L R 0 0 := by
  unfold jn_X4_insertInOrder_55 at h
  refine x_aload_n dX4_insertInOrder_55 rfl ?_
  refine x_getr (j := r0 + 1) dX4_insertInOrder_56 fk_RX4_21 (Rw_k hr0 hn 0 rfl) (Rw_s0 hr0) (Rw_r0 hG hr0) ?_
  refine x_iload_n dX4_insertInOrder_59 rfl ?_
  refine x_lload_n dX4_insertInOrder_60 rfl ?_
  obtain ⟨b11, h⟩ := h
  refine x_lastore dX4_insertInOrder_61 (Rw_k hr0 hn 1 rfl) (Rw_s1 hr0) b11 (fun L12 eL12 => ?_)
  have h := h L12 eL12
  refine x_aload_n dX4_insertInOrder_62 rfl ?_
  refine x_dup dX4_insertInOrder_63 rfl ?_
  refine x_geti dX4_insertInOrder_64 fk_RX4_9 (Rw_k hr0 hn 0 rfl) (Rw_s0 hr0) ?_
  refine x_iconst (v := 1) dX4_insertInOrder_67 ki_1 ?_
  refine x_iadd dX4_insertInOrder_68 ?_
  refine x_puti dX4_insertInOrder_69 fk_RX4_9 fw_4_1 (vp_nar_int _) rfl (Rw_k hr0 hn 0 rfl) (Rw_s0 hr0) (fun I13 eI13 => ?_)
  have h := h I13 eI13
  exact x_return dX4_insertInOrder_72 ⟨rfl, rfl, rfl, h⟩
def wp_X4_insertInOrder (r0 N0 : Nat) (I : MI) (L : ML) (v1 : Int64) (Q : MI → ML → Prop) : Prop :=
    (((I r0 1) < (Int32.ofNat N0) → (∃ N8, lp_X4_insertInOrder_18 r0 N0 v1 (fun x9 L10 => (jn_X4_insertInOrder_55 r0 N0 I L10 v1 x9 Q)) N8 (I r0 1) L)) ∧ (¬ (I r0 1) < (Int32.ofNat N0) → Q I L))
set_option maxRecDepth 20000 in
theorem mt_X4_insertInOrder {E : Ev} {l : Launch} {n : Nat} {R : MR} {r0 N0 : Nat} (hn : 336 ≤ n) (hG : GRx R) (hr0 : isRow r0 N0) {I : MI} {L : ML} {v1 : Int64} {Q : MI → ML → Prop} (h : wp_X4_insertInOrder r0 N0 I L v1 Q) : MX E l rm_X4_insertInOrder yX4_insertInOrder cX4_insertInOrder 4 none [.ref r0, .long v1] n I L R (Qv n R (V11 I L Q)) := by
  refine MX_of (ls := [(0, .ref r0), (1, .long v1)]) (by decide) (Nat.le_of_ble_eq_true rfl) rfl ?_
  unfold wp_X4_insertInOrder at h
  refine x_aload_n dX4_insertInOrder_0 rfl ?_
  refine x_geti dX4_insertInOrder_1 fk_RX4_9 (Rw_k hr0 hn 0 rfl) (Rw_s0 hr0) ?_
  refine x_aload_n dX4_insertInOrder_4 rfl ?_
  refine x_getr (j := r0 + 1) dX4_insertInOrder_5 fk_RX4_21 (Rw_k hr0 hn 0 rfl) (Rw_s0 hr0) (Rw_r0 hG hr0) ?_
  refine x_alen (v := Int32.ofNat N0) dX4_insertInOrder_8 (Rw_k hr0 hn 1 rfl) (Rw_s1 hr0) (by decide) rfl ?_
  refine x_icmp_lt dX4_insertInOrder_9 (tgt := 13) rfl ⟨fun c1 => ?_, fun c1 => ?_⟩
  · have h := h.1 c1
    refine x_aload_n dX4_insertInOrder_13 rfl ?_
    refine x_geti dX4_insertInOrder_14 fk_RX4_9 (Rw_k hr0 hn 0 rfl) (Rw_s0 hr0) ?_
    refine x_istore_n (ls' := [(3, .int (I r0 1)), (0, .ref r0), (1, .long v1)]) dX4_insertInOrder_17 (Nat.le_of_ble_eq_true rfl) rfl ?_
    refine x_ls (ls' := [(0, .ref r0), (1, .long v1), (3, .int (I r0 1))]) [1, 2, 0] rfl ?_
    obtain ⟨N8, h⟩ := h
    refine lpt_X4_insertInOrder_18 hn hG hr0 (fun x9 L10 h => ?_) N8 (I r0 1) L h
    exact jnt_X4_insertInOrder_55 hn hG hr0  h
  · have h := h.2 c1
    exact x_return dX4_insertInOrder_12 ⟨rfl, rfl, rfl, h⟩
abbrev rm_X5_of : Room := { frames := 0, cells := 0, slots := 0, locals := 0 }
def wp_X5_of (v0 : Int32) (v1 : Int32) (v2 : Int32) (v3 : Int32) (Q : Int64 → Prop) : Prop :=
    Q ((((lsl v0.toInt64 40) ||| (lsl v1.toInt64 8)) ||| ((v2 <<< (4 &&& 31)).toInt64)) ||| ((v3 &&& 15).toInt64))
set_option maxRecDepth 20000 in
theorem mt_X5_of {E : Ev} {l : Launch} {n : Nat} {R : MR} (hn : 336 ≤ n) (hG : GRx R) {I : MI} {L : ML} {v0 : Int32} {v1 : Int32} {v2 : Int32} {v3 : Int32} {Q : Int64 → Prop} (h : wp_X5_of v0 v1 v2 v3 Q) : MX E l rm_X5_of yX5_of cX5_of 4 (some .long) [.int v0, .int v1, .int v2, .int v3] n I L R (Ql n R (P00 I L Q)) := by
  refine MX_of (ls := [(0, .int v0), (1, .int v1), (2, .int v2), (3, .int v3)]) (by decide) (Nat.le_of_ble_eq_true rfl) rfl ?_
  unfold wp_X5_of at h
  refine x_iload_n dX5_of_0 rfl ?_
  refine x_i2l dX5_of_1 ?_
  refine x_bipush (v := 40) dX5_of_2 kb_40 ?_
  refine x_lshl dX5_of_4 ?_
  refine x_iload_n dX5_of_5 rfl ?_
  refine x_i2l dX5_of_6 ?_
  refine x_bipush (v := 8) dX5_of_7 kb_8 ?_
  refine x_lshl dX5_of_9 ?_
  refine x_lor dX5_of_10 ?_
  refine x_iload_n dX5_of_11 rfl ?_
  refine x_iconst (v := 4) dX5_of_12 ki_4 ?_
  refine x_ishl dX5_of_13 ?_
  refine x_i2l dX5_of_14 ?_
  refine x_lor dX5_of_15 ?_
  refine x_iload_n dX5_of_16 rfl ?_
  refine x_bipush (v := 15) dX5_of_17 kb_15 ?_
  refine x_iand dX5_of_19 ?_
  refine x_i2l dX5_of_20 ?_
  refine x_lor dX5_of_21 ?_
  exact x_lreturn dX5_of_22 ⟨_, rfl, rfl, rfl, rfl, rfl, h⟩
abbrev rm_X4_at : Room := { frames := 0, cells := 0, slots := 0, locals := 0 }
def wp_X4_at (r0 N0 : Nat) (L : ML) (v1 : Int32) (Q : Int64 → Prop) : Prop :=
    ((v1 < 0 → Q 0) ∧ (¬ v1 < 0 → (((Int32.ofNat N0) ≤ v1 → Q 0) ∧ (¬ (Int32.ofNat N0) ≤ v1 → (vp_in v1 N0 ∧ Q (L (r0 + 1) (ix v1)))))))
set_option maxRecDepth 20000 in
theorem mt_X4_at {E : Ev} {l : Launch} {n : Nat} {R : MR} {r0 N0 : Nat} (hn : 336 ≤ n) (hG : GRx R) (hr0 : isRow r0 N0) {I : MI} {L : ML} {v1 : Int32} {Q : Int64 → Prop} (h : wp_X4_at r0 N0 L v1 Q) : MX E l rm_X4_at yX4_at cX4_at 2 (some .long) [.ref r0, .int v1] n I L R (Ql n R (P00 I L Q)) := by
  refine MX_of (ls := [(0, .ref r0), (1, .int v1)]) (by decide) (Nat.le_of_ble_eq_true rfl) rfl ?_
  unfold wp_X4_at at h
  refine x_iload_n dX4_at_0 rfl ?_
  refine x_if_lt dX4_at_1 (tgt := 22) rfl ⟨fun c1 => ?_, fun c1 => ?_⟩
  · have h := h.1 c1
    refine x_lconst (v := 0) dX4_at_22 rfl ?_
    exact x_lreturn dX4_at_23 ⟨_, rfl, rfl, rfl, rfl, rfl, h⟩
  · have h := h.2 c1
    refine x_iload_n dX4_at_4 rfl ?_
    refine x_aload_n dX4_at_5 rfl ?_
    refine x_getr (j := r0 + 1) dX4_at_6 fk_RX4_21 (Rw_k hr0 hn 0 rfl) (Rw_s0 hr0) (Rw_r0 hG hr0) ?_
    refine x_alen (v := Int32.ofNat N0) dX4_at_9 (Rw_k hr0 hn 1 rfl) (Rw_s1 hr0) (by decide) rfl ?_
    refine x_icmp_ge dX4_at_10 (tgt := 22) rfl ⟨fun c2 => ?_, fun c2 => ?_⟩
    · have h := h.1 c2
      refine x_lconst (v := 0) dX4_at_22 rfl ?_
      exact x_lreturn dX4_at_23 ⟨_, rfl, rfl, rfl, rfl, rfl, h⟩
    · have h := h.2 c2
      refine x_aload_n dX4_at_13 rfl ?_
      refine x_getr (j := r0 + 1) dX4_at_14 fk_RX4_21 (Rw_k hr0 hn 0 rfl) (Rw_s0 hr0) (Rw_r0 hG hr0) ?_
      refine x_iload_n dX4_at_17 rfl ?_
      obtain ⟨b3, h⟩ := h
      refine x_laload dX4_at_18 (Rw_k hr0 hn 1 rfl) (Rw_s1 hr0) b3 ?_
      refine x_goto dX4_at_19 (tgt := 23) rfl ?_
      exact x_lreturn dX4_at_23 ⟨_, rfl, rfl, rfl, rfl, rfl, h⟩
abbrev rm_X4_findAt : Room := { frames := 0, cells := 0, slots := 0, locals := 0 }
def jn_X4_findAt_43 (v4 : Int32) (v5 : Int32) (kj6 : Int32 → Int32 → Prop) : Prop :=
    kj6 v4 (v5 + 1)
set_option maxRecDepth 20000 in
theorem jnt_X4_findAt_43 {E : Ev} {l : Launch} {n : Nat} {R : MR} {r0 N0 : Nat} (hn : 336 ≤ n) (hG : GRx R) (hr0 : isRow r0 N0) {Q : Int32 → Prop} {I : MI} {L : ML} {v1 : Int32} {v2 : Int32} {v3 : Int32} {v4 : Int32} {v5 : Int32} {kj6 : Int32 → Int32 → Prop}
    (hJ6 : ∀ (v4 : Int32) (v5 : Int32), kj6 v4 v5 → X E l rm_X4_findAt yX4_findAt cX4_findAt 6 (some .int) noX (ZM E rm_X4_findAt (Qi n R (P00 I L Q))) 6 [(0, .ref r0), (1, .int v1), (2, .int v2), (3, .int v3), (4, .int v4), (5, .int v5)] [] n I L R 0 0) (h : jn_X4_findAt_43 v4 v5 kj6) : X E l rm_X4_findAt yX4_findAt cX4_findAt 6 (some .int) noX (ZM E rm_X4_findAt (Qi n R (P00 I L Q))) 43 [(0, .ref r0), (1, .int v1), (2, .int v2), (3, .int v3), (4, .int v4), (5, .int v5)] [] n I L R 0 0 := by
  unfold jn_X4_findAt_43 at h
  refine x_iinc (v := v5 + 1) (ls' := [(5, .int (v5 + 1)), (0, .ref r0), (1, .int v1), (2, .int v2), (3, .int v3), (4, .int v4)]) dX4_findAt_43 rfl (congrArg (_ + ·) ki_1) (Nat.le_of_ble_eq_true rfl) rfl ?_
  refine x_goto dX4_findAt_46 (tgt := 6) rfl ?_
  refine x_ls (ls' := [(0, .ref r0), (1, .int v1), (2, .int v2), (3, .int v3), (4, .int v4), (5, .int (v5 + 1))]) [1, 2, 3, 4, 5, 0] rfl ?_
  exact hJ6 v4 (v5 + 1) h
def lp_X4_findAt_6 (r0 N0 : Nat) (I : MI) (L : ML) (v1 : Int32) (v2 : Int32) (v3 : Int32) (Q : Int32 → Prop) : Nat → Int32 → Int32 → Prop
  | 0, _, _ => False
  | n + 1, v4, v5 =>
    (((I r0 1) ≤ v5 → Q (-1)) ∧ (¬ (I r0 1) ≤ v5 → (vp_in v5 N0 ∧ ((¬ (lg_cmp ((L (r0 + 1) (ix v5)) &&& v1.toInt64) v2.toInt64) = 0 → (jn_X4_findAt_43 v4 v5 (fun x4 x5 => (lp_X4_findAt_6 r0 N0 I L v1 v2 v3 Q n x4 x5)))) ∧ ((lg_cmp ((L (r0 + 1) (ix v5)) &&& v1.toInt64) v2.toInt64) = 0 → ((¬ v4 = v3 → (jn_X4_findAt_43 (v4 + 1) v5 (fun x7 x8 => (lp_X4_findAt_6 r0 N0 I L v1 v2 v3 Q n x7 x8)))) ∧ (v4 = v3 → Q v5)))))))
set_option maxRecDepth 20000 in
theorem lpt_X4_findAt_6 {E : Ev} {l : Launch} {n : Nat} {R : MR} {r0 N0 : Nat} (hn : 336 ≤ n) (hG : GRx R) (hr0 : isRow r0 N0) {Q : Int32 → Prop} {v1 : Int32} {v2 : Int32} {v3 : Int32} {I : MI} {L : ML} : ∀ (N : Nat) (v4 : Int32) (v5 : Int32), lp_X4_findAt_6 r0 N0 I L v1 v2 v3 Q N v4 v5 → X E l rm_X4_findAt yX4_findAt cX4_findAt 6 (some .int) noX (ZM E rm_X4_findAt (Qi n R (P00 I L Q))) 6 [(0, .ref r0), (1, .int v1), (2, .int v2), (3, .int v3), (4, .int v4), (5, .int v5)] [] n I L R 0 0 := by
  intro N
  induction N with
  | zero => intro v4 v5 h; exact False.elim h
  | succ N ih =>
    intro v4 v5 h
    unfold lp_X4_findAt_6 at h
    refine x_iload dX4_findAt_6 rfl ?_
    refine x_aload_n dX4_findAt_8 rfl ?_
    refine x_geti dX4_findAt_9 fk_RX4_9 (Rw_k hr0 hn 0 rfl) (Rw_s0 hr0) ?_
    refine x_icmp_ge dX4_findAt_12 (tgt := 49) rfl ⟨fun c1 => ?_, fun c1 => ?_⟩
    · have h := h.1 c1
      refine x_iconst (v := (-1)) dX4_findAt_49 ki_m1 ?_
      exact x_ireturn dX4_findAt_50 ⟨_, rfl, rfl, rfl, rfl, rfl, h⟩
    · have h := h.2 c1
      refine x_aload_n dX4_findAt_15 rfl ?_
      refine x_getr (j := r0 + 1) dX4_findAt_16 fk_RX4_21 (Rw_k hr0 hn 0 rfl) (Rw_s0 hr0) (Rw_r0 hG hr0) ?_
      refine x_iload dX4_findAt_19 rfl ?_
      obtain ⟨b2, h⟩ := h
      refine x_laload dX4_findAt_21 (Rw_k hr0 hn 1 rfl) (Rw_s1 hr0) b2 ?_
      refine x_iload_n dX4_findAt_22 rfl ?_
      refine x_i2l dX4_findAt_23 ?_
      refine x_land dX4_findAt_24 ?_
      refine x_iload_n dX4_findAt_25 rfl ?_
      refine x_i2l dX4_findAt_26 ?_
      refine x_lcmp dX4_findAt_27 ?_
      refine x_if_ne dX4_findAt_28 (tgt := 43) rfl ⟨fun c3 => ?_, fun c3 => ?_⟩
      · have h := h.1 c3
        refine jnt_X4_findAt_43 hn hG hr0 (fun x4 x5 h => ?_) h
        exact ih x4 x5 h
      · have h := h.2 c3
        refine x_iload dX4_findAt_31 rfl ?_
        refine x_iload_n dX4_findAt_33 rfl ?_
        refine x_icmp_ne dX4_findAt_34 (tgt := 40) rfl ⟨fun c6 => ?_, fun c6 => ?_⟩
        · have h := h.1 c6
          refine x_iinc (v := v4 + 1) (ls' := [(4, .int (v4 + 1)), (0, .ref r0), (1, .int v1), (2, .int v2), (3, .int v3), (5, .int v5)]) dX4_findAt_40 rfl (congrArg (_ + ·) ki_1) (Nat.le_of_ble_eq_true rfl) rfl ?_
          refine x_ls (ls' := [(0, .ref r0), (1, .int v1), (2, .int v2), (3, .int v3), (4, .int (v4 + 1)), (5, .int v5)]) [1, 2, 3, 4, 0, 5] rfl ?_
          refine jnt_X4_findAt_43 hn hG hr0 (fun x7 x8 h => ?_) h
          exact ih x7 x8 h
        · have h := h.2 c6
          refine x_iload dX4_findAt_37 rfl ?_
          exact x_ireturn dX4_findAt_39 ⟨_, rfl, rfl, rfl, rfl, rfl, h⟩
def wp_X4_findAt (r0 N0 : Nat) (I : MI) (L : ML) (v1 : Int32) (v2 : Int32) (v3 : Int32) (Q : Int32 → Prop) : Prop :=
    (∃ N9, lp_X4_findAt_6 r0 N0 I L v1 v2 v3 Q N9 0 0)
set_option maxRecDepth 20000 in
theorem mt_X4_findAt {E : Ev} {l : Launch} {n : Nat} {R : MR} {r0 N0 : Nat} (hn : 336 ≤ n) (hG : GRx R) (hr0 : isRow r0 N0) {I : MI} {L : ML} {v1 : Int32} {v2 : Int32} {v3 : Int32} {Q : Int32 → Prop} (h : wp_X4_findAt r0 N0 I L v1 v2 v3 Q) : MX E l rm_X4_findAt yX4_findAt cX4_findAt 6 (some .int) [.ref r0, .int v1, .int v2, .int v3] n I L R (Qi n R (P00 I L Q)) := by
  refine MX_of (ls := [(0, .ref r0), (1, .int v1), (2, .int v2), (3, .int v3)]) (by decide) (Nat.le_of_ble_eq_true rfl) rfl ?_
  unfold wp_X4_findAt at h
  refine x_iconst (v := 0) dX4_findAt_0 ki_0 ?_
  refine x_istore (ls' := [(4, .int 0), (0, .ref r0), (1, .int v1), (2, .int v2), (3, .int v3)]) dX4_findAt_1 (Nat.le_of_ble_eq_true rfl) rfl ?_
  refine x_iconst (v := 0) dX4_findAt_3 ki_0 ?_
  refine x_istore (ls' := [(5, .int 0), (4, .int 0), (0, .ref r0), (1, .int v1), (2, .int v2), (3, .int v3)]) dX4_findAt_4 (Nat.le_of_ble_eq_true rfl) rfl ?_
  refine x_ls (ls' := [(0, .ref r0), (1, .int v1), (2, .int v2), (3, .int v3), (4, .int 0), (5, .int 0)]) [2, 3, 4, 5, 1, 0] rfl ?_
  obtain ⟨N9, h⟩ := h
  exact lpt_X4_findAt_6 hn hG hr0  N9 0 0 h
abbrev rm_X5_place : Room := { frames := 0, cells := 0, slots := 0, locals := 0 }
def wp_X5_place (v0 : Int64) (Q : Int32 → Prop) : Prop :=
    Q (v0.toInt32 &&& 15)
set_option maxRecDepth 20000 in
theorem mt_X5_place {E : Ev} {l : Launch} {n : Nat} {R : MR} (hn : 336 ≤ n) (hG : GRx R) {I : MI} {L : ML} {v0 : Int64} {Q : Int32 → Prop} (h : wp_X5_place v0 Q) : MX E l rm_X5_place yX5_place cX5_place 2 (some .int) [.long v0] n I L R (Qi n R (P00 I L Q)) := by
  refine MX_of (ls := [(0, .long v0)]) (by decide) (Nat.le_of_ble_eq_true rfl) rfl ?_
  unfold wp_X5_place at h
  refine x_lload_n dX5_place_0 rfl ?_
  refine x_l2i dX5_place_1 ?_
  refine x_bipush (v := 15) dX5_place_2 kb_15 ?_
  refine x_iand dX5_place_4 ?_
  exact x_ireturn dX5_place_5 ⟨_, rfl, rfl, rfl, rfl, rfl, h⟩
abbrev rm_X9_partOf : Room := { frames := 0, cells := 0, slots := 0, locals := 0 }
def wp_X9_partOf (v0 : Int32) (Q : Int32 → Prop) : Prop :=
    Q (v0 &&& 3)
set_option maxRecDepth 20000 in
theorem mt_X9_partOf {E : Ev} {l : Launch} {n : Nat} {R : MR} (hn : 336 ≤ n) (hG : GRx R) {I : MI} {L : ML} {v0 : Int32} {Q : Int32 → Prop} (h : wp_X9_partOf v0 Q) : MX E l rm_X9_partOf yX9_partOf cX9_partOf 1 (some .int) [.int v0] n I L R (Qi n R (P00 I L Q)) := by
  refine MX_of (ls := [(0, .int v0)]) (by decide) (Nat.le_of_ble_eq_true rfl) rfl ?_
  unfold wp_X9_partOf at h
  refine x_iload_n dX9_partOf_0 rfl ?_
  refine x_iconst (v := 3) dX9_partOf_1 ki_3 ?_
  refine x_iand dX9_partOf_2 ?_
  exact x_ireturn dX9_partOf_3 ⟨_, rfl, rfl, rfl, rfl, rfl, h⟩
abbrev rm_X4_has : Room := { frames := 0, cells := 0, slots := 0, locals := 0 }
def wp_X4_has (r0 N0 : Nat) (I : MI) (v1 : Int32) (Q : Int32 → Prop) : Prop :=
    ((v1 < 0 → Q 0) ∧ (¬ v1 < 0 → (((I r0 1) ≤ v1 → Q 0) ∧ (¬ (I r0 1) ≤ v1 → (((Int32.ofNat N0) ≤ v1 → Q 0) ∧ (¬ (Int32.ofNat N0) ≤ v1 → Q 1))))))
set_option maxRecDepth 20000 in
theorem mt_X4_has {E : Ev} {l : Launch} {n : Nat} {R : MR} {r0 N0 : Nat} (hn : 336 ≤ n) (hG : GRx R) (hr0 : isRow r0 N0) {I : MI} {L : ML} {v1 : Int32} {Q : Int32 → Prop} (h : wp_X4_has r0 N0 I v1 Q) : MX E l rm_X4_has yX4_has cX4_has 2 (some .boolean) [.ref r0, .int v1] n I L R (Qi n R (P00 I L Q)) := by
  refine MX_of (ls := [(0, .ref r0), (1, .int v1)]) (by decide) (Nat.le_of_ble_eq_true rfl) rfl ?_
  unfold wp_X4_has at h
  refine x_iload_n dX4_has_0 rfl ?_
  refine x_if_lt dX4_has_1 (tgt := 25) rfl ⟨fun c1 => ?_, fun c1 => ?_⟩
  · have h := h.1 c1
    refine x_iconst (v := 0) dX4_has_25 ki_0 ?_
    exact x_zreturn dX4_has_26 rfl ⟨_, rfl, rfl, rfl, rfl, rfl, h⟩
  · have h := h.2 c1
    refine x_iload_n dX4_has_4 rfl ?_
    refine x_aload_n dX4_has_5 rfl ?_
    refine x_geti dX4_has_6 fk_RX4_9 (Rw_k hr0 hn 0 rfl) (Rw_s0 hr0) ?_
    refine x_icmp_ge dX4_has_9 (tgt := 25) rfl ⟨fun c2 => ?_, fun c2 => ?_⟩
    · have h := h.1 c2
      refine x_iconst (v := 0) dX4_has_25 ki_0 ?_
      exact x_zreturn dX4_has_26 rfl ⟨_, rfl, rfl, rfl, rfl, rfl, h⟩
    · have h := h.2 c2
      refine x_iload_n dX4_has_12 rfl ?_
      refine x_aload_n dX4_has_13 rfl ?_
      refine x_getr (j := r0 + 1) dX4_has_14 fk_RX4_21 (Rw_k hr0 hn 0 rfl) (Rw_s0 hr0) (Rw_r0 hG hr0) ?_
      refine x_alen (v := Int32.ofNat N0) dX4_has_17 (Rw_k hr0 hn 1 rfl) (Rw_s1 hr0) (by decide) rfl ?_
      refine x_icmp_ge dX4_has_18 (tgt := 25) rfl ⟨fun c3 => ?_, fun c3 => ?_⟩
      · have h := h.1 c3
        refine x_iconst (v := 0) dX4_has_25 ki_0 ?_
        exact x_zreturn dX4_has_26 rfl ⟨_, rfl, rfl, rfl, rfl, rfl, h⟩
      · have h := h.2 c3
        refine x_iconst (v := 1) dX4_has_21 ki_1 ?_
        refine x_goto dX4_has_22 (tgt := 26) rfl ?_
        exact x_zreturn dX4_has_26 rfl ⟨_, rfl, rfl, rfl, rfl, rfl, h⟩
abbrev rm_X4_removeAt : Room := { frames := 1, cells := 0, slots := 0, locals := 48 }
def wp_X4_removeAt (r0 N0 : Nat) (I : MI) (L : ML) (v1 : Int32) (Q : MI → ML → Prop) : Prop :=
    (wp_X4_has r0 N0 I v1 (fun x1 => (((¬ x1 = 0 → (¬ (v1 + 1) < 0 ∧ (¬ v1 < 0 ∧ (¬ (((I r0 1) - 1) - v1) < 0 ∧ (ix (v1 + 1) + ix (((I r0 1) - 1) - v1) ≤ N0 ∧ (ix v1 + ix (((I r0 1) - 1) - v1) ≤ N0 ∧ (∀ L3, L3 = ur L (r0 + 1) (va_cpy (L (r0 + 1)) (L (r0 + 1)) (ix (v1 + 1)) (ix v1) (ix (((I r0 1) - 1) - v1))) → (∀ I9, I9 = u2 I r0 1 ((I r0 1) - 1) → Q I9 L3)))))))) ∧ (x1 = 0 → Q I L)))))
set_option maxRecDepth 20000 in
theorem mt_X4_removeAt {E : Ev} {l : Launch} {n : Nat} {R : MR} {r0 N0 : Nat} (hn : 336 ≤ n) (hG : GRx R) (hr0 : isRow r0 N0) {I : MI} {L : ML} {v1 : Int32} {Q : MI → ML → Prop} (h : wp_X4_removeAt r0 N0 I L v1 Q) : MX E l rm_X4_removeAt yX4_removeAt cX4_removeAt 2 none [.ref r0, .int v1] n I L R (Qv n R (V11 I L Q)) := by
  refine MX_of (ls := [(0, .ref r0), (1, .int v1)]) (by decide) (Nat.le_of_ble_eq_true rfl) rfl ?_
  unfold wp_X4_removeAt at h
  refine x_aload_n dX4_removeAt_0 rfl ?_
  refine x_iload_n dX4_removeAt_1 rfl ?_
  refine x_cVi00 [.int v1] (mt_X4_has hn hG hr0 h) dX4_removeAt_2 lk_RX4_25 (Rw_k hr0 hn 0 rfl) (Rw_s0 hr0) rfl rfl (Nat.le_of_ble_eq_true rfl) (Rf_of rfl) (fun x1 h => ?_)
  refine x_if_ne dX4_removeAt_5 (tgt := 9) rfl ⟨fun c2 => ?_, fun c2 => ?_⟩
  · have h := h.1 c2
    refine x_aload_n dX4_removeAt_9 rfl ?_
    refine x_getr (j := r0 + 1) dX4_removeAt_10 fk_RX4_21 (Rw_k hr0 hn 0 rfl) (Rw_s0 hr0) (Rw_r0 hG hr0) ?_
    refine x_iload_n dX4_removeAt_13 rfl ?_
    refine x_iconst (v := 1) dX4_removeAt_14 ki_1 ?_
    refine x_iadd dX4_removeAt_15 ?_
    refine x_aload_n dX4_removeAt_16 rfl ?_
    refine x_getr (j := r0 + 1) dX4_removeAt_17 fk_RX4_21 (Rw_k hr0 hn 0 rfl) (Rw_s0 hr0) (Rw_r0 hG hr0) ?_
    refine x_iload_n dX4_removeAt_20 rfl ?_
    refine x_aload_n dX4_removeAt_21 rfl ?_
    refine x_geti dX4_removeAt_22 fk_RX4_9 (Rw_k hr0 hn 0 rfl) (Rw_s0 hr0) ?_
    refine x_iconst (v := 1) dX4_removeAt_25 ki_1 ?_
    refine x_isub dX4_removeAt_26 ?_
    refine x_iload_n dX4_removeAt_27 rfl ?_
    refine x_isub dX4_removeAt_28 ?_
    obtain ⟨b4, h⟩ := h
    obtain ⟨b5, h⟩ := h
    obtain ⟨b6, h⟩ := h
    obtain ⟨b7, h⟩ := h
    obtain ⟨b8, h⟩ := h
    refine x_copyl dX4_removeAt_29 lk_RX4_29 (Rw_k hr0 hn 1 rfl) (Rw_s1 hr0) (Rw_k hr0 hn 1 rfl) (Rw_s1 hr0) b4 b5 b6 b7 b8 ⟨Nat.le_of_ble_eq_true rfl, Nat.le_of_ble_eq_true rfl⟩ (fun L3 eL3 => ?_)
    have h := h L3 eL3
    refine x_aload_n dX4_removeAt_32 rfl ?_
    refine x_dup dX4_removeAt_33 rfl ?_
    refine x_geti dX4_removeAt_34 fk_RX4_9 (Rw_k hr0 hn 0 rfl) (Rw_s0 hr0) ?_
    refine x_iconst (v := 1) dX4_removeAt_37 ki_1 ?_
    refine x_isub dX4_removeAt_38 ?_
    refine x_puti dX4_removeAt_39 fk_RX4_9 fw_4_1 (vp_nar_int _) rfl (Rw_k hr0 hn 0 rfl) (Rw_s0 hr0) (fun I9 eI9 => ?_)
    have h := h I9 eI9
    exact x_return dX4_removeAt_42 ⟨rfl, rfl, rfl, h⟩
  · have h := h.2 c2
    exact x_return dX4_removeAt_8 ⟨rfl, rfl, rfl, h⟩
abbrev rm_X9_baseOf : Room := { frames := 0, cells := 0, slots := 0, locals := 0 }
def wp_X9_baseOf (v0 : Int32) (Q : Int32 → Prop) : Prop :=
    Q (v0 / 4)
set_option maxRecDepth 20000 in
theorem mt_X9_baseOf {E : Ev} {l : Launch} {n : Nat} {R : MR} (hn : 336 ≤ n) (hG : GRx R) {I : MI} {L : ML} {v0 : Int32} {Q : Int32 → Prop} (h : wp_X9_baseOf v0 Q) : MX E l rm_X9_baseOf yX9_baseOf cX9_baseOf 1 (some .int) [.int v0] n I L R (Qi n R (P00 I L Q)) := by
  refine MX_of (ls := [(0, .int v0)]) (by decide) (Nat.le_of_ble_eq_true rfl) rfl ?_
  unfold wp_X9_baseOf at h
  refine x_iload_n dX9_baseOf_0 rfl ?_
  refine x_iconst (v := 4) dX9_baseOf_1 ki_4 ?_
  refine x_idiv dX9_baseOf_2 (by decide) ?_
  exact x_ireturn dX9_baseOf_3 ⟨_, rfl, rfl, rfl, rfl, rfl, h⟩
abbrev rm_X4_add : Room := { frames := 0, cells := 0, slots := 0, locals := 0 }
def wp_X4_add (r0 N0 : Nat) (I : MI) (L : ML) (v1 : Int64) (Q : MI → ML → Prop) : Prop :=
    (((Int32.ofNat N0) ≤ (I r0 1) → Q I L) ∧ (¬ (Int32.ofNat N0) ≤ (I r0 1) → (vp_in (I r0 1) N0 ∧ (∀ L3, L3 = u2 L (r0 + 1) (ix (I r0 1)) v1 → (∀ I4, I4 = u2 I r0 1 ((I r0 1) + 1) → Q I4 L3)))))
set_option maxRecDepth 20000 in
theorem mt_X4_add {E : Ev} {l : Launch} {n : Nat} {R : MR} {r0 N0 : Nat} (hn : 336 ≤ n) (hG : GRx R) (hr0 : isRow r0 N0) {I : MI} {L : ML} {v1 : Int64} {Q : MI → ML → Prop} (h : wp_X4_add r0 N0 I L v1 Q) : MX E l rm_X4_add yX4_add cX4_add 3 none [.ref r0, .long v1] n I L R (Qv n R (V11 I L Q)) := by
  refine MX_of (ls := [(0, .ref r0), (1, .long v1)]) (by decide) (Nat.le_of_ble_eq_true rfl) rfl ?_
  unfold wp_X4_add at h
  refine x_aload_n dX4_add_0 rfl ?_
  refine x_geti dX4_add_1 fk_RX4_9 (Rw_k hr0 hn 0 rfl) (Rw_s0 hr0) ?_
  refine x_aload_n dX4_add_4 rfl ?_
  refine x_getr (j := r0 + 1) dX4_add_5 fk_RX4_21 (Rw_k hr0 hn 0 rfl) (Rw_s0 hr0) (Rw_r0 hG hr0) ?_
  refine x_alen (v := Int32.ofNat N0) dX4_add_8 (Rw_k hr0 hn 1 rfl) (Rw_s1 hr0) (by decide) rfl ?_
  refine x_icmp_ge dX4_add_9 (tgt := 32) rfl ⟨fun c1 => ?_, fun c1 => ?_⟩
  · have h := h.1 c1
    exact x_return dX4_add_32 ⟨rfl, rfl, rfl, h⟩
  · have h := h.2 c1
    refine x_aload_n dX4_add_12 rfl ?_
    refine x_getr (j := r0 + 1) dX4_add_13 fk_RX4_21 (Rw_k hr0 hn 0 rfl) (Rw_s0 hr0) (Rw_r0 hG hr0) ?_
    refine x_aload_n dX4_add_16 rfl ?_
    refine x_geti dX4_add_17 fk_RX4_9 (Rw_k hr0 hn 0 rfl) (Rw_s0 hr0) ?_
    refine x_lload_n dX4_add_20 rfl ?_
    obtain ⟨b2, h⟩ := h
    refine x_lastore dX4_add_21 (Rw_k hr0 hn 1 rfl) (Rw_s1 hr0) b2 (fun L3 eL3 => ?_)
    have h := h L3 eL3
    refine x_aload_n dX4_add_22 rfl ?_
    refine x_dup dX4_add_23 rfl ?_
    refine x_geti dX4_add_24 fk_RX4_9 (Rw_k hr0 hn 0 rfl) (Rw_s0 hr0) ?_
    refine x_iconst (v := 1) dX4_add_27 ki_1 ?_
    refine x_iadd dX4_add_28 ?_
    refine x_puti dX4_add_29 fk_RX4_9 fw_4_1 (vp_nar_int _) rfl (Rw_k hr0 hn 0 rfl) (Rw_s0 hr0) (fun I4 eI4 => ?_)
    have h := h I4 eI4
    exact x_return dX4_add_32 ⟨rfl, rfl, rfl, h⟩
abbrev rm_X5_day : Room := { frames := 0, cells := 0, slots := 0, locals := 0 }
def wp_X5_day (v0 : Int64) (Q : Int32 → Prop) : Prop :=
    Q ((lusr v0 40).toInt32)
set_option maxRecDepth 20000 in
theorem mt_X5_day {E : Ev} {l : Launch} {n : Nat} {R : MR} (hn : 336 ≤ n) (hG : GRx R) {I : MI} {L : ML} {v0 : Int64} {Q : Int32 → Prop} (h : wp_X5_day v0 Q) : MX E l rm_X5_day yX5_day cX5_day 2 (some .int) [.long v0] n I L R (Qi n R (P00 I L Q)) := by
  refine MX_of (ls := [(0, .long v0)]) (by decide) (Nat.le_of_ble_eq_true rfl) rfl ?_
  unfold wp_X5_day at h
  refine x_lload_n dX5_day_0 rfl ?_
  refine x_bipush (v := 40) dX5_day_1 kb_40 ?_
  refine x_lushr dX5_day_3 ?_
  refine x_l2i dX5_day_4 ?_
  exact x_ireturn dX5_day_5 ⟨_, rfl, rfl, rfl, rfl, rfl, h⟩
abbrev rm_X9_placeOf : Room := { frames := 0, cells := 0, slots := 0, locals := 0 }
def wp_X9_placeOf (v0 : Int32) (v1 : Int32) (Q : Int32 → Prop) : Prop :=
    Q ((v0 * 4) + v1)
set_option maxRecDepth 20000 in
theorem mt_X9_placeOf {E : Ev} {l : Launch} {n : Nat} {R : MR} (hn : 336 ≤ n) (hG : GRx R) {I : MI} {L : ML} {v0 : Int32} {v1 : Int32} {Q : Int32 → Prop} (h : wp_X9_placeOf v0 v1 Q) : MX E l rm_X9_placeOf yX9_placeOf cX9_placeOf 2 (some .int) [.int v0, .int v1] n I L R (Qi n R (P00 I L Q)) := by
  refine MX_of (ls := [(0, .int v0), (1, .int v1)]) (by decide) (Nat.le_of_ble_eq_true rfl) rfl ?_
  unfold wp_X9_placeOf at h
  refine x_iload_n dX9_placeOf_0 rfl ?_
  refine x_iconst (v := 4) dX9_placeOf_1 ki_4 ?_
  refine x_imul dX9_placeOf_2 ?_
  refine x_iload_n dX9_placeOf_3 rfl ?_
  refine x_iadd dX9_placeOf_4 ?_
  exact x_ireturn dX9_placeOf_5 ⟨_, rfl, rfl, rfl, rfl, rfl, h⟩
abbrev rm_X4_put : Room := { frames := 1, cells := 0, slots := 0, locals := 21 }
def wp_X4_put (r0 N0 : Nat) (I : MI) (L : ML) (v1 : Int32) (v2 : Int64) (Q : ML → Prop) : Prop :=
    (wp_X4_has r0 N0 I v1 (fun x1 => (((x1 = 0 → Q L) ∧ (¬ x1 = 0 → (vp_in v1 N0 ∧ (∀ L4, L4 = u2 L (r0 + 1) (ix v1) v2 → Q L4)))))))
set_option maxRecDepth 20000 in
theorem mt_X4_put {E : Ev} {l : Launch} {n : Nat} {R : MR} {r0 N0 : Nat} (hn : 336 ≤ n) (hG : GRx R) (hr0 : isRow r0 N0) {I : MI} {L : ML} {v1 : Int32} {v2 : Int64} {Q : ML → Prop} (h : wp_X4_put r0 N0 I L v1 v2 Q) : MX E l rm_X4_put yX4_put cX4_put 4 none [.ref r0, .int v1, .long v2] n I L R (Qv n R (V01 I L Q)) := by
  refine MX_of (ls := [(0, .ref r0), (1, .int v1), (2, .long v2)]) (by decide) (Nat.le_of_ble_eq_true rfl) rfl ?_
  unfold wp_X4_put at h
  refine x_aload_n dX4_put_0 rfl ?_
  refine x_iload_n dX4_put_1 rfl ?_
  refine x_cVi00 [.int v1] (mt_X4_has hn hG hr0 h) dX4_put_2 lk_RX4_25 (Rw_k hr0 hn 0 rfl) (Rw_s0 hr0) rfl rfl (Nat.le_of_ble_eq_true rfl) (Rf_of rfl) (fun x1 h => ?_)
  refine x_if_eq dX4_put_5 (tgt := 15) rfl ⟨fun c2 => ?_, fun c2 => ?_⟩
  · have h := h.1 c2
    exact x_return dX4_put_15 ⟨rfl, rfl, rfl, rfl, h⟩
  · have h := h.2 c2
    refine x_aload_n dX4_put_8 rfl ?_
    refine x_getr (j := r0 + 1) dX4_put_9 fk_RX4_21 (Rw_k hr0 hn 0 rfl) (Rw_s0 hr0) (Rw_r0 hG hr0) ?_
    refine x_iload_n dX4_put_12 rfl ?_
    refine x_lload_n dX4_put_13 rfl ?_
    obtain ⟨b3, h⟩ := h
    refine x_lastore dX4_put_14 (Rw_k hr0 hn 1 rfl) (Rw_s1 hr0) b3 (fun L4 eL4 => ?_)
    have h := h L4 eL4
    exact x_return dX4_put_15 ⟨rfl, rfl, rfl, rfl, h⟩
abbrev rm_X5_mark : Room := { frames := 0, cells := 0, slots := 0, locals := 0 }
def wp_X5_mark (v0 : Int64) (Q : Int32 → Prop) : Prop :=
    Q (((lusr v0 4).toInt32) &&& 15)
set_option maxRecDepth 20000 in
theorem mt_X5_mark {E : Ev} {l : Launch} {n : Nat} {R : MR} (hn : 336 ≤ n) (hG : GRx R) {I : MI} {L : ML} {v0 : Int64} {Q : Int32 → Prop} (h : wp_X5_mark v0 Q) : MX E l rm_X5_mark yX5_mark cX5_mark 2 (some .int) [.long v0] n I L R (Qi n R (P00 I L Q)) := by
  refine MX_of (ls := [(0, .long v0)]) (by decide) (Nat.le_of_ble_eq_true rfl) rfl ?_
  unfold wp_X5_mark at h
  refine x_lload_n dX5_mark_0 rfl ?_
  refine x_iconst (v := 4) dX5_mark_1 ki_4 ?_
  refine x_lushr dX5_mark_2 ?_
  refine x_l2i dX5_mark_3 ?_
  refine x_bipush (v := 15) dX5_mark_4 kb_15 ?_
  refine x_iand dX5_mark_6 ?_
  exact x_ireturn dX5_mark_7 ⟨_, rfl, rfl, rfl, rfl, rfl, h⟩
abbrev rm_X7_fits : Room := { frames := 1, cells := 0, slots := 0, locals := 21 }
def wp_X7_fits (p3 : Nat) (I : MI) (v0 : Int32) (v1 : Int32) (v2 : Int32) (Q : Int32 → Prop) : Prop :=
    ((v0 < 0 → Q 0) ∧ (¬ v0 < 0 → ((v0 < 7 → (vp_in v0 7 ∧ (((((wTab.getD 1 []).getD (ix v0) 0) + v1) < 0 → Q 0) ∧ (¬ (((wTab.getD 1 []).getD (ix v0) 0) + v1) < 0 → ((14 ≤ (((wTab.getD 1 []).getD (ix v0) 0) + v1) → Q 0) ∧ (¬ 14 ≤ (((wTab.getD 1 []).getD (ix v0) 0) + v1) → (((((wTab.getD 1 []).getD (ix v0) 0) + v1) < 14 → (vp_in (((wTab.getD 1 []).getD (ix v0) 0) + v1) 14 ∧ ((¬ ((wTab.getD 3 []).getD (ix (((wTab.getD 1 []).getD (ix v0) 0) + v1)) 0) = (-1) → (vp_in (((wTab.getD 1 []).getD (ix v0) 0) + v1) 14 ∧ ((¬ ((wTab.getD 3 []).getD (ix (((wTab.getD 1 []).getD (ix v0) 0) + v1)) 0) = (-2) → (vp_in (((wTab.getD 1 []).getD (ix v0) 0) + v1) 14 ∧ ((v2 < ((wTab.getD 2 []).getD (ix (((wTab.getD 1 []).getD (ix v0) 0) + v1)) 0) → Q 0) ∧ (¬ v2 < ((wTab.getD 2 []).getD (ix (((wTab.getD 1 []).getD (ix v0) 0) + v1)) 0) → (vp_in (((wTab.getD 1 []).getD (ix v0) 0) + v1) 14 ∧ ((((wTab.getD 3 []).getD (ix (((wTab.getD 1 []).getD (ix v0) 0) + v1)) 0) < v2 → Q 0) ∧ (¬ ((wTab.getD 3 []).getD (ix (((wTab.getD 1 []).getD (ix v0) 0) + v1)) 0) < v2 → Q 1))))))) ∧ (((wTab.getD 3 []).getD (ix (((wTab.getD 1 []).getD (ix v0) 0) + v1)) 0) = (-2) → (wp_X1_hasPart p3 I v2 (fun x15 => ((isB x15 ∧ Q x15)))))))) ∧ (((wTab.getD 3 []).getD (ix (((wTab.getD 1 []).getD (ix v0) 0) + v1)) 0) = (-1) → (wp_X1_hasBase p3 I v2 (fun x16 => ((isB x16 ∧ Q x16)))))))) ∧ (¬ (((wTab.getD 1 []).getD (ix v0) 0) + v1) < 14 → Q 0)))))))) ∧ (¬ v0 < 7 → Q 0))))
set_option maxRecDepth 20000 in
theorem mt_X7_fits {E : Ev} {l : Launch} {n : Nat} {R : MR} {p3 : Nat} (hn : 336 ≤ n) (hG : GRx R) (hp3 : isPlan p3) {I : MI} {L : ML} {v0 : Int32} {v1 : Int32} {v2 : Int32} {Q : Int32 → Prop} (h : wp_X7_fits p3 I v0 v1 v2 Q) : MX E l rm_X7_fits yX7_fits cX7_fits 5 (some .boolean) [.int v0, .int v1, .int v2, .ref p3] n I L R (Qi n R (P00 I L Q)) := by
  refine MX_of (ls := [(0, .int v0), (1, .int v1), (2, .int v2), (3, .ref p3)]) (by decide) (Nat.le_of_ble_eq_true rfl) rfl ?_
  unfold wp_X7_fits at h
  refine x_iload_n dX7_fits_0 rfl ?_
  refine x_if_lt dX7_fits_1 (tgt := 12) rfl ⟨fun c1 => ?_, fun c1 => ?_⟩
  · have h := h.1 c1
    refine x_iconst (v := 0) dX7_fits_12 ki_0 ?_
    exact x_zreturn dX7_fits_13 rfl ⟨_, rfl, rfl, rfl, rfl, rfl, h⟩
  · have h := h.2 c1
    refine x_iload_n dX7_fits_4 rfl ?_
    refine x_gets (i := 1) dX7_fits_5 (by decide) lw_RX7_27 ?_
    refine x_wlen (v := 7) (i := 1) dX7_fits_8 (by decide) rfl ?_
    refine x_icmp_lt dX7_fits_9 (tgt := 14) rfl ⟨fun c2 => ?_, fun c2 => ?_⟩
    · have h := h.1 c2
      refine x_gets (i := 1) dX7_fits_14 (by decide) lw_RX7_27 ?_
      refine x_iload_n dX7_fits_17 rfl ?_
      obtain ⟨b3, h⟩ := h
      refine x_wald (v := 0) (i := 1) dX7_fits_18 (by decide) b3 ?_
      refine x_iload_n dX7_fits_19 rfl ?_
      refine x_iadd dX7_fits_20 ?_
      refine x_istore (ls' := [(4, .int (((wTab.getD 1 []).getD (ix v0) 0) + v1)), (0, .int v0), (1, .int v1), (2, .int v2), (3, .ref p3)]) dX7_fits_21 (Nat.le_of_ble_eq_true rfl) rfl ?_
      refine x_iload dX7_fits_23 rfl ?_
      refine x_if_lt dX7_fits_25 (tgt := 46) rfl ⟨fun c4 => ?_, fun c4 => ?_⟩
      · have h := h.1 c4
        refine x_iconst (v := 0) dX7_fits_46 ki_0 ?_
        exact x_zreturn dX7_fits_47 rfl ⟨_, rfl, rfl, rfl, rfl, rfl, h⟩
      · have h := h.2 c4
        refine x_iload dX7_fits_28 rfl ?_
        refine x_gets (i := 2) dX7_fits_30 (by decide) lw_RX7_30 ?_
        refine x_wlen (v := 14) (i := 2) dX7_fits_33 (by decide) rfl ?_
        refine x_icmp_ge dX7_fits_34 (tgt := 46) rfl ⟨fun c5 => ?_, fun c5 => ?_⟩
        · have h := h.1 c5
          refine x_iconst (v := 0) dX7_fits_46 ki_0 ?_
          exact x_zreturn dX7_fits_47 rfl ⟨_, rfl, rfl, rfl, rfl, rfl, h⟩
        · have h := h.2 c5
          refine x_iload dX7_fits_37 rfl ?_
          refine x_gets (i := 3) dX7_fits_39 (by decide) lw_RX7_33 ?_
          refine x_wlen (v := 14) (i := 3) dX7_fits_42 (by decide) rfl ?_
          refine x_icmp_lt dX7_fits_43 (tgt := 48) rfl ⟨fun c6 => ?_, fun c6 => ?_⟩
          · have h := h.1 c6
            refine x_gets (i := 3) dX7_fits_48 (by decide) lw_RX7_33 ?_
            refine x_iload dX7_fits_51 rfl ?_
            obtain ⟨b7, h⟩ := h
            refine x_wald (v := 0) (i := 3) dX7_fits_53 (by decide) b7 ?_
            refine x_iconst (v := (-1)) dX7_fits_54 ki_m1 ?_
            refine x_icmp_ne dX7_fits_55 (tgt := 64) rfl ⟨fun c8 => ?_, fun c8 => ?_⟩
            · have h := h.1 c8
              refine x_gets (i := 3) dX7_fits_64 (by decide) lw_RX7_33 ?_
              refine x_iload dX7_fits_67 rfl ?_
              obtain ⟨b9, h⟩ := h
              refine x_wald (v := 0) (i := 3) dX7_fits_69 (by decide) b9 ?_
              refine x_bipush (v := (-2)) dX7_fits_70 kb_m2 ?_
              refine x_icmp_ne dX7_fits_72 (tgt := 81) rfl ⟨fun c10 => ?_, fun c10 => ?_⟩
              · have h := h.1 c10
                refine x_iload_n dX7_fits_81 rfl ?_
                refine x_gets (i := 2) dX7_fits_82 (by decide) lw_RX7_30 ?_
                refine x_iload dX7_fits_85 rfl ?_
                obtain ⟨b11, h⟩ := h
                refine x_wald (v := 0) (i := 2) dX7_fits_87 (by decide) b11 ?_
                refine x_icmp_lt dX7_fits_88 (tgt := 105) rfl ⟨fun c12 => ?_, fun c12 => ?_⟩
                · have h := h.1 c12
                  refine x_iconst (v := 0) dX7_fits_105 ki_0 ?_
                  exact x_zreturn dX7_fits_106 rfl ⟨_, rfl, rfl, rfl, rfl, rfl, h⟩
                · have h := h.2 c12
                  refine x_iload_n dX7_fits_91 rfl ?_
                  refine x_gets (i := 3) dX7_fits_92 (by decide) lw_RX7_33 ?_
                  refine x_iload dX7_fits_95 rfl ?_
                  obtain ⟨b13, h⟩ := h
                  refine x_wald (v := 0) (i := 3) dX7_fits_97 (by decide) b13 ?_
                  refine x_icmp_gt dX7_fits_98 (tgt := 105) rfl ⟨fun c14 => ?_, fun c14 => ?_⟩
                  · have h := h.1 c14
                    refine x_iconst (v := 0) dX7_fits_105 ki_0 ?_
                    exact x_zreturn dX7_fits_106 rfl ⟨_, rfl, rfl, rfl, rfl, rfl, h⟩
                  · have h := h.2 c14
                    refine x_iconst (v := 1) dX7_fits_101 ki_1 ?_
                    refine x_goto dX7_fits_102 (tgt := 106) rfl ?_
                    exact x_zreturn dX7_fits_106 rfl ⟨_, rfl, rfl, rfl, rfl, rfl, h⟩
              · have h := h.2 c10
                refine x_aload_n dX7_fits_75 rfl ?_
                refine x_iload_n dX7_fits_76 rfl ?_
                refine x_cVi00 [.int v2] (mt_X1_hasPart hn hG hp3 h) dX7_fits_77 lk_RX7_42 (Pn_k hp3 hn 0 rfl) (Pn_s0 hp3) rfl rfl (Nat.le_of_ble_eq_true rfl) (Rf_of rfl) (fun x15 h => ?_)
                obtain ⟨hz, h⟩ := h
                exact x_zreturn dX7_fits_80 (isB_nar hz) ⟨_, rfl, rfl, rfl, rfl, rfl, h⟩
            · have h := h.2 c8
              refine x_aload_n dX7_fits_58 rfl ?_
              refine x_iload_n dX7_fits_59 rfl ?_
              refine x_cVi00 [.int v2] (mt_X1_hasBase hn hG hp3 h) dX7_fits_60 lk_RX7_36 (Pn_k hp3 hn 0 rfl) (Pn_s0 hp3) rfl rfl (Nat.le_of_ble_eq_true rfl) (Rf_of rfl) (fun x16 h => ?_)
              obtain ⟨hz, h⟩ := h
              exact x_zreturn dX7_fits_63 (isB_nar hz) ⟨_, rfl, rfl, rfl, rfl, rfl, h⟩
          · have h := h.2 c6
            refine x_iconst (v := 0) dX7_fits_46 ki_0 ?_
            exact x_zreturn dX7_fits_47 rfl ⟨_, rfl, rfl, rfl, rfl, rfl, h⟩
    · have h := h.2 c2
      refine x_iconst (v := 0) dX7_fits_12 ki_0 ?_
      exact x_zreturn dX7_fits_13 rfl ⟨_, rfl, rfl, rfl, rfl, rfl, h⟩
abbrev rm_X7_spelled : Room := { frames := 0, cells := 0, slots := 0, locals := 0 }
def wp_X7_spelled (v0 : Int32) (Q : Nat → Prop) : Prop :=
    ((v0 = 0 → Q 1010) ∧ (¬ v0 = 0 → ((v0 = 1 → Q 1011) ∧ (¬ v0 = 1 → ((v0 = 2 → Q 1012) ∧ (¬ v0 = 2 → ((v0 = 3 → Q 1013) ∧ (¬ v0 = 3 → ((v0 = 4 → Q 1014) ∧ (¬ v0 = 4 → ((v0 = 5 → Q 1015) ∧ (¬ v0 = 5 → Q 1016))))))))))))
set_option maxRecDepth 20000 in
theorem mt_X7_spelled {E : Ev} {l : Launch} {n : Nat} {R : MR} (hn : 336 ≤ n) (hG : GRx R) {I : MI} {L : ML} {v0 : Int32} {Q : Nat → Prop} (h : wp_X7_spelled v0 Q) : MX E l rm_X7_spelled yX7_spelled cX7_spelled 1 (some (.object "java/lang/String")) [.int v0] n I L R (Qa n R (P00 I L Q)) := by
  refine MX_of (ls := [(0, .int v0)]) (by decide) (Nat.le_of_ble_eq_true rfl) rfl ?_
  unfold wp_X7_spelled at h
  refine x_iload_n dX7_spelled_0 rfl ?_
  rcases Classical.em (v0 = 0) with c1 | c1
  · have h := h.1 c1
    refine x_tabIn (tgt := 40) dX7_spelled_1 (by rw [c1]; decide) (by rw [c1]; decide) (off := 39) (by rw [c1]; rfl) rfl ?_
    refine x_lds (i := 0) dX7_spelled_40 (by decide) rfl rfl ?_
    exact x_areturn dX7_spelled_42 ⟨_, rfl, rfl, rfl, rfl, rfl, h⟩
  · have h := h.2 c1
    rcases Classical.em (v0 = 1) with c2 | c2
    · have h := h.1 c2
      refine x_tabIn (tgt := 43) dX7_spelled_1 (by rw [c2]; decide) (by rw [c2]; decide) (off := 42) (by rw [c2]; rfl) rfl ?_
      refine x_lds (i := 1) dX7_spelled_43 (by decide) rfl rfl ?_
      exact x_areturn dX7_spelled_45 ⟨_, rfl, rfl, rfl, rfl, rfl, h⟩
    · have h := h.2 c2
      rcases Classical.em (v0 = 2) with c3 | c3
      · have h := h.1 c3
        refine x_tabIn (tgt := 46) dX7_spelled_1 (by rw [c3]; decide) (by rw [c3]; decide) (off := 45) (by rw [c3]; rfl) rfl ?_
        refine x_lds (i := 2) dX7_spelled_46 (by decide) rfl rfl ?_
        exact x_areturn dX7_spelled_48 ⟨_, rfl, rfl, rfl, rfl, rfl, h⟩
      · have h := h.2 c3
        rcases Classical.em (v0 = 3) with c4 | c4
        · have h := h.1 c4
          refine x_tabIn (tgt := 49) dX7_spelled_1 (by rw [c4]; decide) (by rw [c4]; decide) (off := 48) (by rw [c4]; rfl) rfl ?_
          refine x_lds (i := 3) dX7_spelled_49 (by decide) rfl rfl ?_
          exact x_areturn dX7_spelled_51 ⟨_, rfl, rfl, rfl, rfl, rfl, h⟩
        · have h := h.2 c4
          rcases Classical.em (v0 = 4) with c5 | c5
          · have h := h.1 c5
            refine x_tabIn (tgt := 52) dX7_spelled_1 (by rw [c5]; decide) (by rw [c5]; decide) (off := 51) (by rw [c5]; rfl) rfl ?_
            refine x_lds (i := 4) dX7_spelled_52 (by decide) rfl rfl ?_
            exact x_areturn dX7_spelled_54 ⟨_, rfl, rfl, rfl, rfl, rfl, h⟩
          · have h := h.2 c5
            rcases Classical.em (v0 = 5) with c6 | c6
            · have h := h.1 c6
              refine x_tabIn (tgt := 55) dX7_spelled_1 (by rw [c6]; decide) (by rw [c6]; decide) (off := 54) (by rw [c6]; rfl) rfl ?_
              refine x_lds (i := 5) dX7_spelled_55 (by decide) rfl rfl ?_
              exact x_areturn dX7_spelled_57 ⟨_, rfl, rfl, rfl, rfl, rfl, h⟩
            · have h := h.2 c6
              refine x_tabOut (tgt := 58) dX7_spelled_1 (sw_out 5 rfl (sw_6 c1 c2 c3 c4 c5 c6)) rfl ?_
              refine x_lds (i := 6) dX7_spelled_58 (by decide) rfl rfl ?_
              exact x_areturn dX7_spelled_60 ⟨_, rfl, rfl, rfl, rfl, rfl, h⟩
abbrev rm_X7_numbersOf : Room := { frames := 0, cells := 0, slots := 0, locals := 0 }
def wp_X7_numbersOf (I : MI) (v0 : Int32) (Q : Int32 → Prop) : Prop :=
    ((v0 < 0 → Q 0) ∧ (¬ v0 < 0 → ((7 ≤ v0 → Q 0) ∧ (¬ 7 ≤ v0 → (vp_in v0 7 ∧ Q ((wTab.getD 0 []).getD (ix v0) 0))))))
set_option maxRecDepth 20000 in
theorem mt_X7_numbersOf {E : Ev} {l : Launch} {n : Nat} {R : MR} (hn : 336 ≤ n) (hG : GRx R) {I : MI} {L : ML} {v0 : Int32} {Q : Int32 → Prop} (h : wp_X7_numbersOf I v0 Q) : MX E l rm_X7_numbersOf yX7_numbersOf cX7_numbersOf 1 (some .int) [.int v0] n I L R (Qi n R (P00 I L Q)) := by
  refine MX_of (ls := [(0, .int v0)]) (by decide) (Nat.le_of_ble_eq_true rfl) rfl ?_
  unfold wp_X7_numbersOf at h
  refine x_iload_n dX7_numbersOf_0 rfl ?_
  refine x_if_lt dX7_numbersOf_1 (tgt := 20) rfl ⟨fun c1 => ?_, fun c1 => ?_⟩
  · have h := h.1 c1
    refine x_iconst (v := 0) dX7_numbersOf_20 ki_0 ?_
    exact x_ireturn dX7_numbersOf_21 ⟨_, rfl, rfl, rfl, rfl, rfl, h⟩
  · have h := h.2 c1
    refine x_iload_n dX7_numbersOf_4 rfl ?_
    refine x_gets (i := 0) dX7_numbersOf_5 (by decide) lw_RX7_21 ?_
    refine x_wlen (v := 7) (i := 0) dX7_numbersOf_8 (by decide) rfl ?_
    refine x_icmp_ge dX7_numbersOf_9 (tgt := 20) rfl ⟨fun c2 => ?_, fun c2 => ?_⟩
    · have h := h.1 c2
      refine x_iconst (v := 0) dX7_numbersOf_20 ki_0 ?_
      exact x_ireturn dX7_numbersOf_21 ⟨_, rfl, rfl, rfl, rfl, rfl, h⟩
    · have h := h.2 c2
      refine x_gets (i := 0) dX7_numbersOf_12 (by decide) lw_RX7_21 ?_
      refine x_iload_n dX7_numbersOf_15 rfl ?_
      obtain ⟨b3, h⟩ := h
      refine x_wald (v := 0) (i := 0) dX7_numbersOf_16 (by decide) b3 ?_
      refine x_goto dX7_numbersOf_17 (tgt := 21) rfl ?_
      exact x_ireturn dX7_numbersOf_21 ⟨_, rfl, rfl, rfl, rfl, rfl, h⟩
abbrev rm_X4_countAt : Room := { frames := 0, cells := 0, slots := 0, locals := 0 }
def jn_X4_countAt_33 (v3 : Int32) (v4 : Int32) (kj5 : Int32 → Int32 → Prop) : Prop :=
    kj5 v3 (v4 + 1)
set_option maxRecDepth 20000 in
theorem jnt_X4_countAt_33 {E : Ev} {l : Launch} {n : Nat} {R : MR} {r0 N0 : Nat} (hn : 336 ≤ n) (hG : GRx R) (hr0 : isRow r0 N0) {Q : Int32 → Prop} {I : MI} {L : ML} {v1 : Int32} {v2 : Int32} {v3 : Int32} {v4 : Int32} {kj5 : Int32 → Int32 → Prop}
    (hJ5 : ∀ (v3 : Int32) (v4 : Int32), kj5 v3 v4 → X E l rm_X4_countAt yX4_countAt cX4_countAt 5 (some .int) noX (ZM E rm_X4_countAt (Qi n R (P00 I L Q))) 5 [(0, .ref r0), (1, .int v1), (2, .int v2), (3, .int v3), (4, .int v4)] [] n I L R 0 0) (h : jn_X4_countAt_33 v3 v4 kj5) : X E l rm_X4_countAt yX4_countAt cX4_countAt 5 (some .int) noX (ZM E rm_X4_countAt (Qi n R (P00 I L Q))) 33 [(0, .ref r0), (1, .int v1), (2, .int v2), (3, .int v3), (4, .int v4)] [] n I L R 0 0 := by
  unfold jn_X4_countAt_33 at h
  refine x_iinc (v := v4 + 1) (ls' := [(4, .int (v4 + 1)), (0, .ref r0), (1, .int v1), (2, .int v2), (3, .int v3)]) dX4_countAt_33 rfl (congrArg (_ + ·) ki_1) (Nat.le_of_ble_eq_true rfl) rfl ?_
  refine x_goto dX4_countAt_36 (tgt := 5) rfl ?_
  refine x_ls (ls' := [(0, .ref r0), (1, .int v1), (2, .int v2), (3, .int v3), (4, .int (v4 + 1))]) [1, 2, 3, 4, 0] rfl ?_
  exact hJ5 v3 (v4 + 1) h
def lp_X4_countAt_5 (r0 N0 : Nat) (I : MI) (L : ML) (v1 : Int32) (v2 : Int32) (Q : Int32 → Prop) : Nat → Int32 → Int32 → Prop
  | 0, _, _ => False
  | n + 1, v3, v4 =>
    (((I r0 1) ≤ v4 → Q v3) ∧ (¬ (I r0 1) ≤ v4 → (vp_in v4 N0 ∧ ((¬ (lg_cmp ((L (r0 + 1) (ix v4)) &&& v1.toInt64) v2.toInt64) = 0 → (jn_X4_countAt_33 v3 v4 (fun x4 x5 => (lp_X4_countAt_5 r0 N0 I L v1 v2 Q n x4 x5)))) ∧ ((lg_cmp ((L (r0 + 1) (ix v4)) &&& v1.toInt64) v2.toInt64) = 0 → (jn_X4_countAt_33 (v3 + 1) v4 (fun x6 x7 => (lp_X4_countAt_5 r0 N0 I L v1 v2 Q n x6 x7))))))))
set_option maxRecDepth 20000 in
theorem lpt_X4_countAt_5 {E : Ev} {l : Launch} {n : Nat} {R : MR} {r0 N0 : Nat} (hn : 336 ≤ n) (hG : GRx R) (hr0 : isRow r0 N0) {Q : Int32 → Prop} {v1 : Int32} {v2 : Int32} {I : MI} {L : ML} : ∀ (N : Nat) (v3 : Int32) (v4 : Int32), lp_X4_countAt_5 r0 N0 I L v1 v2 Q N v3 v4 → X E l rm_X4_countAt yX4_countAt cX4_countAt 5 (some .int) noX (ZM E rm_X4_countAt (Qi n R (P00 I L Q))) 5 [(0, .ref r0), (1, .int v1), (2, .int v2), (3, .int v3), (4, .int v4)] [] n I L R 0 0 := by
  intro N
  induction N with
  | zero => intro v3 v4 h; exact False.elim h
  | succ N ih =>
    intro v3 v4 h
    unfold lp_X4_countAt_5 at h
    refine x_iload dX4_countAt_5 rfl ?_
    refine x_aload_n dX4_countAt_7 rfl ?_
    refine x_geti dX4_countAt_8 fk_RX4_9 (Rw_k hr0 hn 0 rfl) (Rw_s0 hr0) ?_
    refine x_icmp_ge dX4_countAt_11 (tgt := 39) rfl ⟨fun c1 => ?_, fun c1 => ?_⟩
    · have h := h.1 c1
      refine x_iload_n dX4_countAt_39 rfl ?_
      exact x_ireturn dX4_countAt_40 ⟨_, rfl, rfl, rfl, rfl, rfl, h⟩
    · have h := h.2 c1
      refine x_aload_n dX4_countAt_14 rfl ?_
      refine x_getr (j := r0 + 1) dX4_countAt_15 fk_RX4_21 (Rw_k hr0 hn 0 rfl) (Rw_s0 hr0) (Rw_r0 hG hr0) ?_
      refine x_iload dX4_countAt_18 rfl ?_
      obtain ⟨b2, h⟩ := h
      refine x_laload dX4_countAt_20 (Rw_k hr0 hn 1 rfl) (Rw_s1 hr0) b2 ?_
      refine x_iload_n dX4_countAt_21 rfl ?_
      refine x_i2l dX4_countAt_22 ?_
      refine x_land dX4_countAt_23 ?_
      refine x_iload_n dX4_countAt_24 rfl ?_
      refine x_i2l dX4_countAt_25 ?_
      refine x_lcmp dX4_countAt_26 ?_
      refine x_if_ne dX4_countAt_27 (tgt := 33) rfl ⟨fun c3 => ?_, fun c3 => ?_⟩
      · have h := h.1 c3
        refine jnt_X4_countAt_33 hn hG hr0 (fun x4 x5 h => ?_) h
        exact ih x4 x5 h
      · have h := h.2 c3
        refine x_iinc (v := v3 + 1) (ls' := [(3, .int (v3 + 1)), (0, .ref r0), (1, .int v1), (2, .int v2), (4, .int v4)]) dX4_countAt_30 rfl (congrArg (_ + ·) ki_1) (Nat.le_of_ble_eq_true rfl) rfl ?_
        refine x_ls (ls' := [(0, .ref r0), (1, .int v1), (2, .int v2), (3, .int (v3 + 1)), (4, .int v4)]) [1, 2, 3, 0, 4] rfl ?_
        refine jnt_X4_countAt_33 hn hG hr0 (fun x6 x7 h => ?_) h
        exact ih x6 x7 h
def wp_X4_countAt (r0 N0 : Nat) (I : MI) (L : ML) (v1 : Int32) (v2 : Int32) (Q : Int32 → Prop) : Prop :=
    (∃ N8, lp_X4_countAt_5 r0 N0 I L v1 v2 Q N8 0 0)
set_option maxRecDepth 20000 in
theorem mt_X4_countAt {E : Ev} {l : Launch} {n : Nat} {R : MR} {r0 N0 : Nat} (hn : 336 ≤ n) (hG : GRx R) (hr0 : isRow r0 N0) {I : MI} {L : ML} {v1 : Int32} {v2 : Int32} {Q : Int32 → Prop} (h : wp_X4_countAt r0 N0 I L v1 v2 Q) : MX E l rm_X4_countAt yX4_countAt cX4_countAt 5 (some .int) [.ref r0, .int v1, .int v2] n I L R (Qi n R (P00 I L Q)) := by
  refine MX_of (ls := [(0, .ref r0), (1, .int v1), (2, .int v2)]) (by decide) (Nat.le_of_ble_eq_true rfl) rfl ?_
  unfold wp_X4_countAt at h
  refine x_iconst (v := 0) dX4_countAt_0 ki_0 ?_
  refine x_istore_n (ls' := [(3, .int 0), (0, .ref r0), (1, .int v1), (2, .int v2)]) dX4_countAt_1 (Nat.le_of_ble_eq_true rfl) rfl ?_
  refine x_iconst (v := 0) dX4_countAt_2 ki_0 ?_
  refine x_istore (ls' := [(4, .int 0), (3, .int 0), (0, .ref r0), (1, .int v1), (2, .int v2)]) dX4_countAt_3 (Nat.le_of_ble_eq_true rfl) rfl ?_
  refine x_ls (ls' := [(0, .ref r0), (1, .int v1), (2, .int v2), (3, .int 0), (4, .int 0)]) [2, 3, 4, 1, 0] rfl ?_
  obtain ⟨N8, h⟩ := h
  exact lpt_X4_countAt_5 hn hG hr0  N8 0 0 h
abbrev rm_X5_number : Room := { frames := 0, cells := 0, slots := 0, locals := 0 }
def wp_X5_number (v0 : Int64) (Q : Int32 → Prop) : Prop :=
    Q ((lusr v0 8).toInt32)
set_option maxRecDepth 20000 in
theorem mt_X5_number {E : Ev} {l : Launch} {n : Nat} {R : MR} (hn : 336 ≤ n) (hG : GRx R) {I : MI} {L : ML} {v0 : Int64} {Q : Int32 → Prop} (h : wp_X5_number v0 Q) : MX E l rm_X5_number yX5_number cX5_number 2 (some .int) [.long v0] n I L R (Qi n R (P00 I L Q)) := by
  refine MX_of (ls := [(0, .long v0)]) (by decide) (Nat.le_of_ble_eq_true rfl) rfl ?_
  unfold wp_X5_number at h
  refine x_lload_n dX5_number_0 rfl ?_
  refine x_bipush (v := 8) dX5_number_1 kb_8 ?_
  refine x_lushr dX5_number_3 ?_
  refine x_l2i dX5_number_4 ?_
  exact x_ireturn dX5_number_5 ⟨_, rfl, rfl, rfl, rfl, rfl, h⟩
abbrev rm_X7_fitsHouse : Room := { frames := 0, cells := 0, slots := 0, locals := 0 }
def wp_X7_fitsHouse (I : MI) (v0 : Int32) (v1 : Int32) (Q : Int32 → Prop) : Prop :=
    ((v0 < 0 → Q 0) ∧ (¬ v0 < 0 → ((2 < v0 → Q 0) ∧ (¬ 2 < v0 → (vp_in v0 14 ∧ ((v1 < ((wTab.getD 2 []).getD (ix v0) 0) → Q 0) ∧ (¬ v1 < ((wTab.getD 2 []).getD (ix v0) 0) → (vp_in v0 14 ∧ ((((wTab.getD 3 []).getD (ix v0) 0) < v1 → Q 0) ∧ (¬ ((wTab.getD 3 []).getD (ix v0) 0) < v1 → Q 1))))))))))
set_option maxRecDepth 20000 in
theorem mt_X7_fitsHouse {E : Ev} {l : Launch} {n : Nat} {R : MR} (hn : 336 ≤ n) (hG : GRx R) {I : MI} {L : ML} {v0 : Int32} {v1 : Int32} {Q : Int32 → Prop} (h : wp_X7_fitsHouse I v0 v1 Q) : MX E l rm_X7_fitsHouse yX7_fitsHouse cX7_fitsHouse 2 (some .boolean) [.int v0, .int v1] n I L R (Qi n R (P00 I L Q)) := by
  refine MX_of (ls := [(0, .int v0), (1, .int v1)]) (by decide) (Nat.le_of_ble_eq_true rfl) rfl ?_
  unfold wp_X7_fitsHouse at h
  refine x_iload_n dX7_fitsHouse_0 rfl ?_
  refine x_if_lt dX7_fitsHouse_1 (tgt := 31) rfl ⟨fun c1 => ?_, fun c1 => ?_⟩
  · have h := h.1 c1
    refine x_iconst (v := 0) dX7_fitsHouse_31 ki_0 ?_
    exact x_zreturn dX7_fitsHouse_32 rfl ⟨_, rfl, rfl, rfl, rfl, rfl, h⟩
  · have h := h.2 c1
    refine x_iload_n dX7_fitsHouse_4 rfl ?_
    refine x_iconst (v := 2) dX7_fitsHouse_5 ki_2 ?_
    refine x_icmp_gt dX7_fitsHouse_6 (tgt := 31) rfl ⟨fun c2 => ?_, fun c2 => ?_⟩
    · have h := h.1 c2
      refine x_iconst (v := 0) dX7_fitsHouse_31 ki_0 ?_
      exact x_zreturn dX7_fitsHouse_32 rfl ⟨_, rfl, rfl, rfl, rfl, rfl, h⟩
    · have h := h.2 c2
      refine x_iload_n dX7_fitsHouse_9 rfl ?_
      refine x_gets (i := 2) dX7_fitsHouse_10 (by decide) lw_RX7_30 ?_
      refine x_iload_n dX7_fitsHouse_13 rfl ?_
      obtain ⟨b3, h⟩ := h
      refine x_wald (v := 0) (i := 2) dX7_fitsHouse_14 (by decide) b3 ?_
      refine x_icmp_lt dX7_fitsHouse_15 (tgt := 31) rfl ⟨fun c4 => ?_, fun c4 => ?_⟩
      · have h := h.1 c4
        refine x_iconst (v := 0) dX7_fitsHouse_31 ki_0 ?_
        exact x_zreturn dX7_fitsHouse_32 rfl ⟨_, rfl, rfl, rfl, rfl, rfl, h⟩
      · have h := h.2 c4
        refine x_iload_n dX7_fitsHouse_18 rfl ?_
        refine x_gets (i := 3) dX7_fitsHouse_19 (by decide) lw_RX7_33 ?_
        refine x_iload_n dX7_fitsHouse_22 rfl ?_
        obtain ⟨b5, h⟩ := h
        refine x_wald (v := 0) (i := 3) dX7_fitsHouse_23 (by decide) b5 ?_
        refine x_icmp_gt dX7_fitsHouse_24 (tgt := 31) rfl ⟨fun c6 => ?_, fun c6 => ?_⟩
        · have h := h.1 c6
          refine x_iconst (v := 0) dX7_fitsHouse_31 ki_0 ?_
          exact x_zreturn dX7_fitsHouse_32 rfl ⟨_, rfl, rfl, rfl, rfl, rfl, h⟩
        · have h := h.2 c6
          refine x_iconst (v := 1) dX7_fitsHouse_27 ki_1 ?_
          refine x_goto dX7_fitsHouse_28 (tgt := 32) rfl ?_
          exact x_zreturn dX7_fitsHouse_32 rfl ⟨_, rfl, rfl, rfl, rfl, rfl, h⟩
abbrev rm_X7_fitsPart : Room := { frames := 0, cells := 0, slots := 0, locals := 0 }
def wp_X7_fitsPart (I : MI) (v0 : Int32) (v1 : Int32) (Q : Int32 → Prop) : Prop :=
    (vp_in 3 7 ∧ (((((wTab.getD 1 []).getD (ix 3) 0) + v0) < 0 → Q 0) ∧ (¬ (((wTab.getD 1 []).getD (ix 3) 0) + v0) < 0 → ((14 ≤ (((wTab.getD 1 []).getD (ix 3) 0) + v0) → Q 0) ∧ (¬ 14 ≤ (((wTab.getD 1 []).getD (ix 3) 0) + v0) → (vp_in (((wTab.getD 1 []).getD (ix 3) 0) + v0) 14 ∧ ((v1 < ((wTab.getD 2 []).getD (ix (((wTab.getD 1 []).getD (ix 3) 0) + v0)) 0) → Q 0) ∧ (¬ v1 < ((wTab.getD 2 []).getD (ix (((wTab.getD 1 []).getD (ix 3) 0) + v0)) 0) → (vp_in (((wTab.getD 1 []).getD (ix 3) 0) + v0) 14 ∧ ((((wTab.getD 3 []).getD (ix (((wTab.getD 1 []).getD (ix 3) 0) + v0)) 0) < v1 → Q 0) ∧ (¬ ((wTab.getD 3 []).getD (ix (((wTab.getD 1 []).getD (ix 3) 0) + v0)) 0) < v1 → Q 1)))))))))))
set_option maxRecDepth 20000 in
theorem mt_X7_fitsPart {E : Ev} {l : Launch} {n : Nat} {R : MR} (hn : 336 ≤ n) (hG : GRx R) {I : MI} {L : ML} {v0 : Int32} {v1 : Int32} {Q : Int32 → Prop} (h : wp_X7_fitsPart I v0 v1 Q) : MX E l rm_X7_fitsPart yX7_fitsPart cX7_fitsPart 3 (some .boolean) [.int v0, .int v1] n I L R (Qi n R (P00 I L Q)) := by
  refine MX_of (ls := [(0, .int v0), (1, .int v1)]) (by decide) (Nat.le_of_ble_eq_true rfl) rfl ?_
  unfold wp_X7_fitsPart at h
  refine x_gets (i := 1) dX7_fitsPart_0 (by decide) lw_RX7_27 ?_
  refine x_iconst (v := 3) dX7_fitsPart_3 ki_3 ?_
  obtain ⟨b1, h⟩ := h
  refine x_wald (v := 0) (i := 1) dX7_fitsPart_4 (by decide) b1 ?_
  refine x_iload_n dX7_fitsPart_5 rfl ?_
  refine x_iadd dX7_fitsPart_6 ?_
  refine x_istore_n (ls' := [(2, .int (((wTab.getD 1 []).getD (ix 3) 0) + v0)), (0, .int v0), (1, .int v1)]) dX7_fitsPart_7 (Nat.le_of_ble_eq_true rfl) rfl ?_
  refine x_iload_n dX7_fitsPart_8 rfl ?_
  refine x_if_lt dX7_fitsPart_9 (tgt := 42) rfl ⟨fun c2 => ?_, fun c2 => ?_⟩
  · have h := h.1 c2
    refine x_iconst (v := 0) dX7_fitsPart_42 ki_0 ?_
    exact x_zreturn dX7_fitsPart_43 rfl ⟨_, rfl, rfl, rfl, rfl, rfl, h⟩
  · have h := h.2 c2
    refine x_iload_n dX7_fitsPart_12 rfl ?_
    refine x_gets (i := 2) dX7_fitsPart_13 (by decide) lw_RX7_30 ?_
    refine x_wlen (v := 14) (i := 2) dX7_fitsPart_16 (by decide) rfl ?_
    refine x_icmp_ge dX7_fitsPart_17 (tgt := 42) rfl ⟨fun c3 => ?_, fun c3 => ?_⟩
    · have h := h.1 c3
      refine x_iconst (v := 0) dX7_fitsPart_42 ki_0 ?_
      exact x_zreturn dX7_fitsPart_43 rfl ⟨_, rfl, rfl, rfl, rfl, rfl, h⟩
    · have h := h.2 c3
      refine x_iload_n dX7_fitsPart_20 rfl ?_
      refine x_gets (i := 2) dX7_fitsPart_21 (by decide) lw_RX7_30 ?_
      refine x_iload_n dX7_fitsPart_24 rfl ?_
      obtain ⟨b4, h⟩ := h
      refine x_wald (v := 0) (i := 2) dX7_fitsPart_25 (by decide) b4 ?_
      refine x_icmp_lt dX7_fitsPart_26 (tgt := 42) rfl ⟨fun c5 => ?_, fun c5 => ?_⟩
      · have h := h.1 c5
        refine x_iconst (v := 0) dX7_fitsPart_42 ki_0 ?_
        exact x_zreturn dX7_fitsPart_43 rfl ⟨_, rfl, rfl, rfl, rfl, rfl, h⟩
      · have h := h.2 c5
        refine x_iload_n dX7_fitsPart_29 rfl ?_
        refine x_gets (i := 3) dX7_fitsPart_30 (by decide) lw_RX7_33 ?_
        refine x_iload_n dX7_fitsPart_33 rfl ?_
        obtain ⟨b6, h⟩ := h
        refine x_wald (v := 0) (i := 3) dX7_fitsPart_34 (by decide) b6 ?_
        refine x_icmp_gt dX7_fitsPart_35 (tgt := 42) rfl ⟨fun c7 => ?_, fun c7 => ?_⟩
        · have h := h.1 c7
          refine x_iconst (v := 0) dX7_fitsPart_42 ki_0 ?_
          exact x_zreturn dX7_fitsPart_43 rfl ⟨_, rfl, rfl, rfl, rfl, rfl, h⟩
        · have h := h.2 c7
          refine x_iconst (v := 1) dX7_fitsPart_38 ki_1 ?_
          refine x_goto dX7_fitsPart_39 (tgt := 43) rfl ?_
          exact x_zreturn dX7_fitsPart_43 rfl ⟨_, rfl, rfl, rfl, rfl, rfl, h⟩
abbrev rm_X9_isPurse : Room := { frames := 0, cells := 0, slots := 0, locals := 0 }
def wp_X9_isPurse (v0 : Int32) (Q : Int32 → Prop) : Prop :=
    ((v0 < 0 → Q 0) ∧ (¬ v0 < 0 → ((99 < v0 → Q 0) ∧ (¬ 99 < v0 → Q 1))))
set_option maxRecDepth 20000 in
theorem mt_X9_isPurse {E : Ev} {l : Launch} {n : Nat} {R : MR} (hn : 336 ≤ n) (hG : GRx R) {I : MI} {L : ML} {v0 : Int32} {Q : Int32 → Prop} (h : wp_X9_isPurse v0 Q) : MX E l rm_X9_isPurse yX9_isPurse cX9_isPurse 1 (some .boolean) [.int v0] n I L R (Qi n R (P00 I L Q)) := by
  refine MX_of (ls := [(0, .int v0)]) (by decide) (Nat.le_of_ble_eq_true rfl) rfl ?_
  unfold wp_X9_isPurse at h
  refine x_iload_n dX9_isPurse_0 rfl ?_
  refine x_if_lt dX9_isPurse_1 (tgt := 14) rfl ⟨fun c1 => ?_, fun c1 => ?_⟩
  · have h := h.1 c1
    refine x_iconst (v := 0) dX9_isPurse_14 ki_0 ?_
    exact x_zreturn dX9_isPurse_15 rfl ⟨_, rfl, rfl, rfl, rfl, rfl, h⟩
  · have h := h.2 c1
    refine x_iload_n dX9_isPurse_4 rfl ?_
    refine x_bipush (v := 99) dX9_isPurse_5 kb_99 ?_
    refine x_icmp_gt dX9_isPurse_7 (tgt := 14) rfl ⟨fun c2 => ?_, fun c2 => ?_⟩
    · have h := h.1 c2
      refine x_iconst (v := 0) dX9_isPurse_14 ki_0 ?_
      exact x_zreturn dX9_isPurse_15 rfl ⟨_, rfl, rfl, rfl, rfl, rfl, h⟩
    · have h := h.2 c2
      refine x_iconst (v := 1) dX9_isPurse_10 ki_1 ?_
      refine x_goto dX9_isPurse_11 (tgt := 15) rfl ?_
      exact x_zreturn dX9_isPurse_15 rfl ⟨_, rfl, rfl, rfl, rfl, rfl, h⟩
abbrev rm_X9_whichWord : Room := { frames := 0, cells := 0, slots := 0, locals := 0 }
def wp_X9_whichWord (v0 : Int32) (Q : Int32 → Prop) : Prop :=
    ((¬ v0 = 0 → ((¬ v0 = 1 → Q 0) ∧ (v0 = 1 → Q 1))) ∧ (v0 = 0 → Q 2))
set_option maxRecDepth 20000 in
theorem mt_X9_whichWord {E : Ev} {l : Launch} {n : Nat} {R : MR} (hn : 336 ≤ n) (hG : GRx R) {I : MI} {L : ML} {v0 : Int32} {Q : Int32 → Prop} (h : wp_X9_whichWord v0 Q) : MX E l rm_X9_whichWord yX9_whichWord cX9_whichWord 1 (some .int) [.int v0] n I L R (Qi n R (P00 I L Q)) := by
  refine MX_of (ls := [(0, .int v0)]) (by decide) (Nat.le_of_ble_eq_true rfl) rfl ?_
  unfold wp_X9_whichWord at h
  refine x_iload_n dX9_whichWord_0 rfl ?_
  refine x_if_ne dX9_whichWord_1 (tgt := 8) rfl ⟨fun c1 => ?_, fun c1 => ?_⟩
  · have h := h.1 c1
    refine x_iload_n dX9_whichWord_8 rfl ?_
    refine x_iconst (v := 1) dX9_whichWord_9 ki_1 ?_
    refine x_icmp_ne dX9_whichWord_10 (tgt := 17) rfl ⟨fun c2 => ?_, fun c2 => ?_⟩
    · have h := h.1 c2
      refine x_iconst (v := 0) dX9_whichWord_17 ki_0 ?_
      exact x_ireturn dX9_whichWord_18 ⟨_, rfl, rfl, rfl, rfl, rfl, h⟩
    · have h := h.2 c2
      refine x_iconst (v := 1) dX9_whichWord_13 ki_1 ?_
      refine x_goto dX9_whichWord_14 (tgt := 18) rfl ?_
      exact x_ireturn dX9_whichWord_18 ⟨_, rfl, rfl, rfl, rfl, rfl, h⟩
  · have h := h.2 c1
    refine x_iconst (v := 2) dX9_whichWord_4 ki_2 ?_
    refine x_goto dX9_whichWord_5 (tgt := 18) rfl ?_
    exact x_ireturn dX9_whichWord_18 ⟨_, rfl, rfl, rfl, rfl, rfl, h⟩
abbrev rm_X9_sum : Room := { frames := 0, cells := 0, slots := 0, locals := 0 }
def lp_X9_sum_4 (a0 N0 : Nat) (I : MI) (Q : Int32 → Prop) : Nat → Int32 → Int32 → Prop
  | 0, _, _ => False
  | n + 1, v1, v2 =>
    (((Int32.ofNat N0) ≤ v2 → Q v1) ∧ (¬ (Int32.ofNat N0) ≤ v2 → (vp_in v2 N0 ∧ (lp_X9_sum_4 a0 N0 I Q n (v1 + (I a0 (ix v2))) (v2 + 1)))))
set_option maxRecDepth 20000 in
theorem lpt_X9_sum_4 {E : Ev} {l : Launch} {n : Nat} {R : MR} {a0 N0 : Nat} (hn : 336 ≤ n) (hG : GRx R) (ha0 : a0 < n ∧ sh a0 = .inr (0, N0)) {Q : Int32 → Prop} {I : MI} {L : ML} : ∀ (N : Nat) (v1 : Int32) (v2 : Int32), lp_X9_sum_4 a0 N0 I Q N v1 v2 → X E l rm_X9_sum yX9_sum cX9_sum 3 (some .int) noX (ZM E rm_X9_sum (Qi n R (P00 I L Q))) 4 [(0, .ref a0), (1, .int v1), (2, .int v2)] [] n I L R 0 0 := by
  intro N
  induction N with
  | zero => intro v1 v2 h; exact False.elim h
  | succ N ih =>
    intro v1 v2 h
    unfold lp_X9_sum_4 at h
    refine x_iload_n dX9_sum_4 rfl ?_
    refine x_aload_n dX9_sum_5 rfl ?_
    refine x_alen (v := Int32.ofNat N0) dX9_sum_6 ha0.1 ha0.2 (by decide) rfl ?_
    refine x_icmp_ge dX9_sum_7 (tgt := 22) rfl ⟨fun c1 => ?_, fun c1 => ?_⟩
    · have h := h.1 c1
      refine x_iload_n dX9_sum_22 rfl ?_
      exact x_ireturn dX9_sum_23 ⟨_, rfl, rfl, rfl, rfl, rfl, h⟩
    · have h := h.2 c1
      refine x_iload_n dX9_sum_10 rfl ?_
      refine x_aload_n dX9_sum_11 rfl ?_
      refine x_iload_n dX9_sum_12 rfl ?_
      obtain ⟨b2, h⟩ := h
      refine x_iaload dX9_sum_13 ha0.1 ha0.2 b2 ?_
      refine x_iadd dX9_sum_14 ?_
      refine x_istore_n (ls' := [(1, .int (v1 + (I a0 (ix v2)))), (0, .ref a0), (2, .int v2)]) dX9_sum_15 (Nat.le_of_ble_eq_true rfl) rfl ?_
      refine x_iinc (v := v2 + 1) (ls' := [(2, .int (v2 + 1)), (1, .int (v1 + (I a0 (ix v2)))), (0, .ref a0)]) dX9_sum_16 rfl (congrArg (_ + ·) ki_1) (Nat.le_of_ble_eq_true rfl) rfl ?_
      refine x_goto dX9_sum_19 (tgt := 4) rfl ?_
      refine x_ls (ls' := [(0, .ref a0), (1, .int (v1 + (I a0 (ix v2)))), (2, .int (v2 + 1))]) [2, 1, 0] rfl ?_
      exact ih (v1 + (I a0 (ix v2))) (v2 + 1) h
def wp_X9_sum (a0 N0 : Nat) (I : MI) (Q : Int32 → Prop) : Prop :=
    (∃ N3, lp_X9_sum_4 a0 N0 I Q N3 0 0)
set_option maxRecDepth 20000 in
theorem mt_X9_sum {E : Ev} {l : Launch} {n : Nat} {R : MR} {a0 N0 : Nat} (hn : 336 ≤ n) (hG : GRx R) (ha0 : a0 < n ∧ sh a0 = .inr (0, N0)) {I : MI} {L : ML} {Q : Int32 → Prop} (h : wp_X9_sum a0 N0 I Q) : MX E l rm_X9_sum yX9_sum cX9_sum 3 (some .int) [.ref a0] n I L R (Qi n R (P00 I L Q)) := by
  refine MX_of (ls := [(0, .ref a0)]) (by decide) (Nat.le_of_ble_eq_true rfl) rfl ?_
  unfold wp_X9_sum at h
  refine x_iconst (v := 0) dX9_sum_0 ki_0 ?_
  refine x_istore_n (ls' := [(1, .int 0), (0, .ref a0)]) dX9_sum_1 (Nat.le_of_ble_eq_true rfl) rfl ?_
  refine x_iconst (v := 0) dX9_sum_2 ki_0 ?_
  refine x_istore_n (ls' := [(2, .int 0), (1, .int 0), (0, .ref a0)]) dX9_sum_3 (Nat.le_of_ble_eq_true rfl) rfl ?_
  refine x_ls (ls' := [(0, .ref a0), (1, .int 0), (2, .int 0)]) [2, 1, 0] rfl ?_
  obtain ⟨N3, h⟩ := h
  exact lpt_X9_sum_4 hn hG ha0  N3 0 0 h
