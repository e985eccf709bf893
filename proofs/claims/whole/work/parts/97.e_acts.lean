/-! the acts, side by side -/
section ACTS
variable {k : Nat} {I : MI} {L : ML} {A : St} {U : List St} {t : Nat → Nat} {n : Nat} {Y : List (Nat × Nat × Nat × Nat)} {a b c d e : Int32}
theorem vc_rem {Q : MI → ML → Prop} (h : VC I L A U t n) (hQ : ∀ I' L', VC I' L' A ((A :: U).take 12) t n → HC I I' → Q I' L') : wp_X0_remember 2 I L Q := c_remember h.1 h.2.1 (fun I' L' hu hf => hQ I' L' (h.rem hu hf) hf.hc)
theorem vr_rem {Q : MI → Prop} (h : VR I A U t n) (hQ : ∀ I', VR I' A ((A :: U).take 12) t n → LC I I' → Q I') : wp_X10_remembers I Q := r_remembers h.1 h.2.1 (fun I' hu hf => hQ I' (h.rem hu hf) hf.lc)
theorem m_feed {Q : Int32 → MI → Prop} (h : Iv k I L) (hQ : ∀ x I', (∀ Q2 : Int32 → MI → Prop, (∀ I'', Iv (k + 1) I'' L → Q2 x I'') → wp_X10_feed I' a b c d e Q2) → Q x I') : wp_X9_feed I a b c d e Q := by
  have h0 := h.up
  obtain ⟨A, U, t, n, hc, hr, hp, hu⟩ := h
  have hn := hc.2.2.1.1
  refine c_feed hc.2.2.1 hc.2.2.2.1 (fun hl I' f hl' hT => hQ _ _ (fun Q2 h2 => ?_)) (fun hl => hQ _ _ (fun Q2 h2 => r_feed hn hr.2.2.1 hr.2.2.2 (fun g => absurd g (by omega)) (fun _ => h2 _ h0)))
  have hr' : VR I' A U t n := hr.fr (fun j hj => f.1 j (by omega) (by omega))
  refine r_feed hn hr'.2.2.1 hr'.2.2.2 (fun _ I'' f2 hl2 ht2 => h2 _ ⟨A, U, fedT t n (ar a b c d e), n + 20, ?_, ?_, hp.up, PGs_up hu⟩) (fun g => absurd hl (by omega))
  · have hV : VC I' L A U _ (n + 20) := ⟨hc.1.frame (fun q a b => ⟨f.1 q (by omega) (by omega), rfl⟩), hc.2.1.frame (fun q a b => ⟨f.1 q (by omega) (by omega), rfl⟩), hT, hl', hc.2.2.2.2.fr (fun j a b => f.1 j (by omega) (by omega)) (fun j a b => rfl)⟩
    exact hV.fr (fun j hj => f2.1 j (by omega) (by omega)) (fun _ _ => rfl)
  · obtain ⟨Y, hY⟩ := hr'.1
    exact ⟨⟨Y, hY.cg (f2.1 337 (by omega) (by omega))⟩, hr'.2.1.fr (f2.2 4 (by omega)) (f2.1 339 (by omega) (by omega)), hl2, ht2⟩
theorem m_back {Q : Int32 → MI → Prop} (h : Iv k I L) (hQ : ∀ x I', (∀ Q2 : Int32 → MI → Prop, (∀ I'', Iv (k + 1) I'' L → Q2 x I'') → wp_X10_back I' a Q2) → Q x I') : wp_X9_back I a Q := by
  have h0 := h.up
  obtain ⟨A, U, t, n, hc, hr, hp, hu⟩ := h
  have hn := hc.2.2.1.1
  refine c_back hn hc.2.2.2.1 (fun m hm em I' eI => hQ _ _ (fun Q2 h2 => ?_)) (fun hl => hQ _ _ (fun Q2 h2 => r_back hn hr.2.2.1 (fun m hm em => absurd em (hl m hm)) (fun _ => h2 _ h0)))
  have f : ∀ j, j ≠ 0 → I' j = I j := fun j hj => by rw [eI, u2_ne hj]
  have hr' : VR I' A U t n := hr.fr (fun j hj => f j (by omega))
  refine r_back hn hr'.2.2.1 (fun m' hm' em' I'' eI2 => ?_) (fun g => absurd em (g m hm))
  have eq : m' = m := (nI_eq (by omega) (by omega)).mp (em'.symm.trans em)
  subst eq
  have f2 : ∀ j, j ≠ 336 → I'' j = I' j := fun j hj => by rw [eI2, u2_ne hj]
  refine h2 _ ⟨A, U, t, n - m', ?_, ?_, hp.up, PGs_up hu⟩
  · have hV : VC I' L A U t (n - m') := ⟨hc.1.frame (fun q a b => ⟨f q (by omega), rfl⟩), hc.2.1.frame (fun q a b => ⟨f q (by omega), rfl⟩), ⟨by omega, fun q hq => by rw [f 1 (by omega)]; exact hc.2.2.1.2 q (by omega)⟩, by rw [eI, u2_s], hc.2.2.2.2.fr (fun j a b => f j (by omega)) (fun j a b => rfl)⟩
    exact hV.fr (fun j hj => f2 j (by omega)) (fun _ _ => rfl)
  · obtain ⟨Y, hY⟩ := hr'.1
    exact ⟨⟨Y, hY.cg (f2 337 (by omega))⟩, hr'.2.1.fr (by rw [eI2, u2_n2 (by omega)]) (f2 339 (by omega)), by rw [eI2, u2_s], fun q hq => by rw [f2 340 (by omega)]; exact hr'.2.2.2 q (by omega)⟩
/-- it begins anew -/
theorem anew_PL (B : St) : PL B (anew B) := fun j h1 h2 => by
  funext i
  rw [anew_N, if_neg (by omega), if_neg (by omega), if_neg (by omega), if_neg (by omega)]
theorem anew_10 (B : St) : sN (anew B) 10 = sN B 9 := by funext i; rw [anew_N, if_pos rfl]
theorem anew_11 (B : St) : sN (anew B) 11 = fun _ => 0 := by funext i; rw [anew_N, if_neg (by omega), if_pos rfl]
theorem anew_13 (B : St) : sN (anew B) 13 = sN B 5 := by funext i; rw [anew_N, if_neg (by omega), if_neg (by omega), if_pos rfl]
theorem anew_0 (B : St) : sN (anew B) 0 = fun _ => 0 := by funext i; rw [anew_N, if_neg (by omega), if_neg (by omega), if_neg (by omega), if_pos rfl]
theorem PG_anew {B : St} (hs : SetOk B) (h9 : St9 B) (k : Nat) : PG k (anew B) := by
  have hl := anew_PL B
  have hs' : SetOk (anew B) := hs.same hl
  have h9' : St9 (anew B) := fun c hc => by rw [hl 9 (by omega) (by omega)]; exact h9 c hc
  have hv : ∀ c, vc (anew B) c ↔ vc B c := hl.vc
  have htp : TP (anew B) ≤ cap (anew B) := by
    unfold TP
    rw [anew_10, anew_11, anew_13, cap_PL hl]
    unfold cap
    rw [hl 7 (by omega) (by omega)]
    show 0 + 0 + tot (sN B 5) 4 + tot (sN B 9) 16 + tot (sN B 7) 16 ≤ _
    omega
  have hcap := cap_le hs' h9'
  refine ⟨⟨hs', ⟨fun c hc => ?_, fun c hc hn => ?_, fun p hp hn => ?_, fun w hw => absurd hw (by intro z; cases z), fun w hw => absurd hw (by intro z; cases z), fun w hw => absurd hw (by intro z; cases z), fun w hw => absurd hw (by intro z; cases z), by omega, Nat.zero_le _, ?_, List.Pairwise.nil, fun w hw => absurd hw (by intro z; cases z), ?_, List.Pairwise.nil⟩, fun w hw => absurd hw (by intro z; cases z), Or.inl rfl⟩, h9', ?_, htp, ?_⟩
  · rw [anew_11]; exact ⟨Nat.zero_le _, rfl⟩
  · rw [anew_10]; exact (hs.2.2.2.2.2.1 c hc (fun z => hn ((hv c).mpr z))).2.2
  · rw [anew_13]
    rw [hl 1 (by omega) (by omega)] at hn
    exact (hs.2.2.2.2.2.2.1 p hp hn).2.2.2
  · rw [anew_0]; rfl
  · rw [anew_0]; exact Nat.zero_le _
  · rw [anew_0]; exact Nat.zero_le _
  · rw [anew_0]; exact Nat.zero_le _
theorem m_text {Q : Int32 → MI → Prop} (h : Iv k I L) (hQ : ∀ x I', (∀ Q2 : Int32 → MI → Prop, (∀ I'', Iv (k + 1) I'' L → Q2 x I'') → wp_X10_text I' Q2) → Q x I') : wp_X9_text I Q := by
  obtain ⟨A, U, t, n, hc, hr, hp, hu⟩ := h
  have hn := hc.2.2.1.1
  have ct0 : ∀ J : MI, CT J t 0 := fun J => ⟨Nat.zero_le _, fun q hq => absurd hq (by omega)⟩
  refine c_text (L := L) hc.2.2.1 hc.2.2.2.1 (fun f I' hf fI h0 => hQ _ _ (fun Q2 h2 => ?_)) (fun B I' hB hC h461 h462 w10 w11 w12 h0 fI => hQ _ _ (fun Q2 h2 => ?_))
  · have hr' : VR I' A U t n := hr.fr (fun j hj => fI j (by omega) (by omega))
    obtain ⟨Y, hY⟩ := hr'.1
    have ht : ∀ q, q < n → t q < 256 ∧ I' 340 q = nI (t q) := fun q hq => ⟨(hc.2.2.1.2 q hq).1, hr'.2.2.2 q hq⟩
    refine r_text hY hn hr'.2.2.1 ht (fun f' I'' hf' fx hR h6 h4 => ?_) (fun B I'' hB => by rw [hf] at hB; cases hB)
    rw [hf] at hf'
    cases hf'
    have hV : VC I' L A U t 0 := ⟨hc.1.frame (fun q a b => ⟨fI q (by omega) (by omega), rfl⟩), hc.2.1.frame (fun q a b => ⟨fI q (by omega) (by omega), rfl⟩), ct0 I', h0, hc.2.2.2.2.fr (fun j a b => fI j (by omega) (by omega)) (fun j a b => rfl)⟩
    exact h2 _ (Iv.mk' hV ⟨⟨Y, hR⟩, hr'.2.1.fr h4 (fx.1 339 (by omega) (by omega) (by omega)), h6, fun q hq => absurd hq (by omega)⟩ (fun j hj => fx.1 j (by omega) (by omega) (by omega)) hp.up (PGs_up hu))
  · have hr' : VR I' A U t n := hr.fr (fun j hj => fI j hj)
    obtain ⟨Y, hY⟩ := hr'.1
    have ht : ∀ q, q < n → t q < 256 ∧ I' 340 q = nI (t q) := fun q hq => ⟨(hc.2.2.1.2 q hq).1, hr'.2.2.2 q hq⟩
    refine r_text hY hn hr'.2.2.1 ht (fun f' I'' hf' => by rw [hB] at hf'; cases hf') (fun B' I'' hB' fx hR h6 h4 => ?_)
    rw [hB] at hB'
    cases hB'
    obtain ⟨nx, hx1, hx2, -, -⟩ := hc.2.1
    have hV : VC I' L (anew B) [] t 0 := ⟨hC, ⟨nx, hx1, h461.trans hx2, h462, Nat.zero_le _, fun q C hq => by cases hq⟩, ct0 I', h0, Or.inl w10, Or.inl w11, Or.inl w12⟩
    have hB2 := pAll_ok (n + 1) B0 0 B (Nat.zero_le _) B0_ok.1 B0_ok.2 hB
    exact h2 _ (Iv.mk' hV ⟨⟨[], hR⟩, ⟨h4, Nat.zero_le _, fun q C hq => by cases hq⟩, h6, fun q hq => absurd hq (by omega)⟩ (fun j hj => fx.1 j (by omega) (by omega) (by omega)) (PG_anew hB2.1 hB2.2 _) (fun C hC => by cases hC))
theorem m_breaks {Q : Int32 → MI → ML → Prop} (hk : k ≤ 512) (h : Iv k I L) (hQ : ∀ x I' L', (∀ Q2 : Int32 → MI → Prop, (∀ I'', Iv (k + 1) I'' L' → Q2 x I'') → wp_X10_breaks I' a b Q2) → Q x I' L') : wp_X9_breaks I L a b Q := by
  have h0 := h.up
  obtain ⟨A, U, t, n, hc, hr, hp, hu⟩ := h
  have hs := hp.1.1
  have hd := hp.1.2.1
  have hbd := hp.2.2.2.2
  obtain ⟨Y, hY⟩ := hr.1
  unfold wp_X9_breaks
  by_cases hv : IC A a b
  · obtain ⟨⟨b', hb, rfl⟩, ⟨p, hp', rfl⟩⟩ := hv
    obtain ⟨hvc, hb3, hp3⟩ := vc_of hs hb hp'
    have h16 : 4 * b' + p < 16 := by omega
    refine cY hc.1 hs hb hp' (i0 o1 (s_placeOf (c_canBreak hc.1 hs hd h16 (fun hcb => j0 o1 (vc_rem hc (fun I1 L1 v1 f1 => s_placeOf (c_breakPiece v1.1 hs hd hvc hcb (by omega) (fun I2 L2 c2 f2 => hQ _ _ _ (fun Q2 h2 => ?_)))))) (fun hcb => j1 rfl (hQ _ _ _ (fun Q2 h2 => ?_))))))
    · have hbo := brk_ok hs hd hvc hcb
      have hV := v1.op c2 f2 (PL.sp hbo.2.2.1.2.1)
      have hr' := hr.fr (f1.tr f2.hc)
      obtain ⟨Y', hY'⟩ := hr'.1
      unfold wp_X10_breaks
      refine rY hY' hs hb hp' (i0 o1 (r_canBreak' (by omega) hY' hs hd hvc (fun _ => j0 o1 (vr_rem hr' (fun I3 v3 l3 => r_breaksOne' (by omega) v3.1 hs hd hvc hcb (fun I4 r4 f4 => h2 _ ?_)))) (fun z => absurd hcb z)))
      exact Iv.mk' hV (v3.op r4 f4.g) (l3.tr f4.lc) (hp.of ⟨hbo.1, hbo.2.1, brk_rest hs hd hvc hcb hp.1.2.2⟩ hbo.2.2.1.2.1 (by rw [hbo.2.2.1.1]; exact hp.2.2.1) (TP_brk h16 hcb) (by have := hbo.2.2.2.1; omega)) (PGs_rem hu hp)
    · unfold wp_X10_breaks
      exact rY hY hs hb hp' (i0 o1 (r_canBreak' (by omega) hY hs hd hvc (fun z => absurd z hcb) (fun _ => j1 rfl (h2 _ h0))))
  · refine cN hc.1 hs hv (i1 rfl (hQ _ _ _ (fun Q2 h2 => ?_)))
    unfold wp_X10_breaks
    exact rN hY hs hv (i1 rfl (h2 _ h0))
theorem ar1 {x y z m q : Nat} (h : x ≤ y + q) (h2 : y ≤ z + q * m) : x ≤ z + q * (m + 1) := by
  rw [Nat.mul_add_one]
  omega
theorem goN_ok : ∀ (m : Nat) (B : St), Good B → sN B 0 9 + m ≤ 10000 → ∃ C, Nat.repeat goDay m B = C ∧ Good C ∧ PL B C ∧ sN C 0 9 = sN B 0 9 + m ∧ sN C 0 10 ≤ sN B 0 10 + 35032 * m ∧ TP C ≤ TP B
  | 0, B, hg, _ => ⟨B, rfl, hg, PL.rf, rfl, by omega, Nat.le_refl _⟩
  | m + 1, B, hg, h9 => by
    obtain ⟨C, e, g, l, d, s, tp⟩ := goN_ok m B hg (by omega)
    have h1 := goDay_ok g.1 g.2.1 g.2.2 (by omega)
    have d2 : sN (goDay C) 0 9 = sN B 0 9 + (m + 1) := by rw [h1.2.2.2.2.1, d, Nat.add_assoc]
    have s2 : sN (goDay C) 0 10 ≤ sN B 0 10 + 35032 * (m + 1) := by
      exact ar1 h1.2.2.2.2.2.1 s
    exact ⟨goDay C, by show goDay (Nat.repeat goDay m B) = _; rw [e], ⟨h1.1, h1.2.1, h1.2.2.1⟩, l.tr h1.2.2.2.2.2.2, d2, s2, Nat.le_trans (TP_goDay g.1 g.2.1 (by omega)) tp⟩
theorem c_goN {m : Nat} {v : Int32} {Q : Int32 → MI → ML → Prop} (hv : v = nI m) (hm : m ≤ 30) (hA : Good A) (h9 : sN A 0 9 + m ≤ 9999) (hb : sN A 0 10 + 1200000 < 2 ^ 30) (hC : CR 2 I L A) (hQ : ∀ I' L', CR 2 I' L' (Nat.repeat goDay m A) → Fr 2 I L I' L' → Q (nI (sN A 0 9 + m)) I' L') : ∃ N, lp_X9_pass_28 v Q N 0 I L := by
  have key : ∀ (r i : Nat) (J : MI) (K : ML), i + r = m → CR 2 J K (Nat.repeat goDay i A) → Fr 2 I L J K → lp_X9_pass_28 (nI m) Q (r + 1) (nI i) J K := by
    intro r
    induction r with
    | zero =>
      intro i J K hi hJ hF
      unfold lp_X9_pass_28
      have e : i = m := by omega
      subst e
      obtain ⟨C, eC, g, l, d, s, tp⟩ := goN_ok i A hA (by omega)
      refine i1 (nI_le (Nat.le_refl _) (by omega)) ?_
      rw [show J 2 9 = nI (sN (Nat.repeat goDay i A) 0 9) from hJ.n (nd0 (by omega) (by omega)), eC, d]
      exact hQ J K hJ hF
    | succ r ih =>
      intro i J K hi hJ hF
      unfold lp_X9_pass_28
      obtain ⟨C, eC, g, l, d, s, tp⟩ := goN_ok i A hA (by omega)
      refine i0 (nI_ge (by omega) (by omega)) ?_
      rw [eC] at hJ
      refine c_goBy hJ g.1 g.2.1 (by omega) (by omega) (fun I6 L7 c6 f6 => ?_)
      rw [nI_1]
      exact ih (i + 1) I6 L7 (by omega) (by show CR 2 I6 L7 (goDay (Nat.repeat goDay i A)); rw [eC]; exact c6) (hF.tr f6)
  subst hv
  exact ⟨m + 1, by rw [← nI_0]; exact key m 0 I L (by omega) hC Fr.rf⟩
theorem r_goN {m : Nat} {v : Int32} {Q : MI → Prop} (hv : v = nI m) (hm : m ≤ 30) (hA : Good A) (h9 : sN A 0 9 + m ≤ 9999) (hb : sN A 0 10 + 1200000 < 2 ^ 30) (hC : ∃ Y, RR I A Y) (hQ : ∀ I', (∃ Y, RR I' (Nat.repeat goDay m A) Y) → RF I I' → Q I') : ∃ N, lp_X10_pass_18 v Q N 0 I := by
  have key : ∀ (r i : Nat) (J : MI), i + r = m → (∃ Y, RR J (Nat.repeat goDay i A) Y) → RF I J → lp_X10_pass_18 (nI m) Q (r + 1) (nI i) J := by
    intro r
    induction r with
    | zero =>
      intro i J hi hJ hF
      unfold lp_X10_pass_18
      have e : i = m := by omega
      subst e
      exact i1 (nI_le (Nat.le_refl _) (by omega)) (hQ J hJ hF)
    | succ r ih =>
      intro i J hi hJ hF
      unfold lp_X10_pass_18
      obtain ⟨C, eC, g, l, d, s, tp⟩ := goN_ok i A hA (by omega)
      refine i0 (nI_ge (by omega) (by omega)) ?_
      rw [eC] at hJ
      refine r_goesDay hJ g.1 g.2.1 g.2.2 (by omega) (by omega) (fun I6 c6 f6 => ?_)
      rw [nI_1]
      exact ih (i + 1) I6 (by omega) (by show ∃ Y, RR I6 (goDay (Nat.repeat goDay i A)) Y; rw [eC]; exact c6) (hF.tr f6)
  subst hv
  exact ⟨m + 1, by rw [← nI_0]; exact key m 0 I (by omega) hC RF.rf⟩
theorem m_pass {Q : Int32 → MI → ML → Prop} (hk : k ≤ 512) (h : Iv k I L) (hQ : ∀ x I' L', (∀ Q2 : Int32 → MI → Prop, (∀ I'', Iv (k + 1) I'' L' → Q2 x I'') → wp_X10_pass I' a Q2) → Q x I' L') : wp_X9_pass I L a Q := by
  have h0 := h.up
  obtain ⟨A, U, t, n, hc, hr, hp, hu⟩ := h
  have hbd := hp.2.2.2.2
  have h9 := hp.2.2.1
  obtain ⟨Y, hY⟩ := hr.1
  unfold wp_X9_pass
  refine c_canGoBy hc.1 (fun hd => j0 o1 ?_) (fun hd => j1 rfl (hQ _ _ _ (fun Q2 h2 => ?_)))
  · obtain ⟨m, em, m1, m2, m3⟩ := dayOk.nat (m := 30) (by omega) hd h9
    obtain ⟨C, eC, g, l, d, s, tp⟩ := goN_ok m A hp.1 (by omega)
    refine vc_rem hc (fun I1 L1 v1 f1 => c_goN em m2 hp.1 m3 (by omega) v1.1 (fun I2 L2 c2 f2 => hQ _ _ _ (fun Q2 h2 => ?_)))
    rw [eC] at c2
    have hV := v1.op c2 f2 l.sp
    have hr' := hr.fr (f1.tr f2.hc)
    obtain ⟨Y', hY'⟩ := hr'.1
    unfold wp_X10_pass
    refine r_areDays hY' (fun _ => j0 o1 (vr_rem hr' (fun I3 v3 l3 => r_goN em m2 hp.1 m3 (by omega) v3.1 (fun I4 r4 f4 => ⟨v5, ?_⟩)))) (fun z => absurd hd z)
    rw [eC] at r4
    have h5 : I4 337 (ix 5) = nI (sN A 0 9 + m) := by
      obtain ⟨Z, hZ⟩ := r4
      rw [← d]
      exact hZ.n (j := 0) (i := 9) (by decide)
    rw [h5]
    exact h2 _ (Iv.mk' hV (v3.op r4 f4.g) (l3.tr f4.lc) (hp.of g l (by omega) tp (by omega)) (PGs_rem hu hp))
  · unfold wp_X10_pass
    exact r_areDays hY (fun z => absurd z hd) (fun _ => j1 rfl (h2 _ h0))
theorem m_run {Q : Int32 → MI → ML → Prop} (hk : k ≤ 512) (h : Iv k I L) (hQ : ∀ x I' L', (∀ Q2 : Int32 → MI → Prop, (∀ I'', Iv (k + 1) I'' L' → Q2 x I'') → wp_X10_run I' a b Q2) → Q x I' L') : wp_X9_run I L a b Q := by
  have h0 := h.up
  obtain ⟨A, U, t, n, hc, hr, hp, hu⟩ := h
  have hbd := hp.2.2.2.2
  have h9 := hp.2.2.1
  obtain ⟨Y, hY⟩ := hr.1
  unfold wp_X9_run
  refine c_canGoBy hc.1 (fun hd => j0 o1 ?_) (fun hd => j1 rfl (hQ _ _ _ (fun Q2 h2 => ?_)))
  · obtain ⟨m, em, m1, m2, m3⟩ := dayOk.nat (m := 30) (by omega) hd h9
    have hd0 := hd
    subst em
    obtain ⟨g, l, d, s⟩ := drawD_ok fxx m (b, A) hp.1 (show sN A 0 9 + m ≤ 10000 by omega)
    have tp := TP_drawD fxx m (b, A) hp.1 (show sN A 0 9 + m ≤ 10000 by omega)
    have d' : sN (drawD fxx m (b, A)).2 0 9 = sN A 0 9 + m := d
    have s' : sN (drawD fxx m (b, A)).2 0 10 ≤ sN A 0 10 + 37000 * m := s
    refine vc_rem hc (fun I1 L1 v1 f1 => c_drawDays (f := fxx) (fun _ => rfl) v1.1 hp.1 (by omega) (by omega) (by omega) (fun I2 L2 c2 f2 => hQ _ _ _ (fun Q2 h2 => ?_)))
    have hV := v1.op c2 f2 (PL.sp l)
    have hr' := hr.fr (f1.tr f2.hc)
    obtain ⟨Y', hY'⟩ := hr'.1
    unfold wp_X10_run
    refine r_areDays hY' (fun _ => j0 o1 (vr_rem hr' (fun I3 v3 l3 => r_runs (f := fxx) (fun _ => rfl) v3.1 hp.1 (by omega) (by omega) (by omega) (fun I4 r4 f4 => ?_)))) (fun z => absurd hd0 z)
    exact h2 _ (Iv.mk' hV (v3.op r4 f4) (l3.tr f4.lc) (hp.of g l (by omega) tp (by omega)) (PGs_rem hu hp))
  · unfold wp_X10_run
    exact r_areDays hY (fun z => absurd z hd) (fun _ => j1 rfl (h2 _ h0))
theorem m_begin {Q : Int32 → MI → ML → Prop} (h : Iv k I L) (hQ : ∀ x I' L', (∀ Q2 : Int32 → MI → Prop, (∀ I'', Iv (k + 1) I'' L' → Q2 x I'') → wp_X10_begin I' Q2) → Q x I' L') : wp_X9_begin I L Q := by
  obtain ⟨A, U, t, n, hc, hr, hp, hu⟩ := h
  unfold wp_X9_begin
  rw [show I 2 9 = nI (sN A 0 9) from hc.1.n (nd0 (by omega) (by omega))]
  refine vc_rem hc (fun I1 L1 v1 f1 => c_beginAnew (L := L1) v1.1.pr (fun I2 c2 f2 => hQ _ _ _ (fun Q2 h2 => ?_)))
  have hV := v1.op c2 f2 (anew_PL A).sp
  have hr' := hr.fr (f1.tr f2.hc)
  unfold wp_X10_begin
  refine vr_rem hr' (fun I3 v3 l3 => ⟨v5, ?_⟩)
  obtain ⟨Z, hZ⟩ := v3.1
  refine r_starts hZ.1 (fun I4 r4 f4 => ?_)
  rw [show I3 337 (ix 5) = nI (sN A 0 9) from hZ.n (j := 0) (i := 9) (by decide)]
  exact h2 _ (Iv.mk' hV (v3.op ⟨_, r4⟩ f4.g) (l3.tr f4.lc) (PG_anew hp.1.1 hp.2.1 _) (PGs_rem hu hp))
theorem c_forget {Q : MI → Prop} (hQ : ∀ I', I' 326 10 = 0 → I' 326 11 = 0 → I' 326 12 = 0 → (∀ j, j ≠ 326 → I' j = I j) → Q I') : wp_X8_forget I Q := by
  intro I1 e1 I2 e2 I3 e3
  refine hQ I3 ?_ ?_ ?_ (fun j hj => by rw [e3, u2_ne hj, e2, u2_ne hj, e1, u2_ne hj])
  · rw [e3, u2_n2 (by omega), e2, u2_n2 (by omega), e1, u2_s]
  · rw [e3, u2_n2 (by omega), e2, u2_s]
  · rw [e3, u2_s]
theorem m_undo {Q : Int32 → MI → ML → Prop} (h : Iv k I L) (hQ : ∀ x I' L', (∀ Q2 : Int32 → MI → Prop, (∀ I'', Iv (k + 1) I'' L' → Q2 x I'') → wp_X10_undo I' Q2) → Q x I' L') : wp_X9_undo I L Q := by
  have h0 := h.up
  obtain ⟨A, U, t, n, hc, hr, hp, hu⟩ := h
  unfold wp_X9_undo
  refine c_takeBack hc.2.1 (fun e => j1 rfl (hQ _ _ _ (fun Q2 h2 => r_undo hr.2.1 (fun _ => h2 _ h0) (fun A V g => by rw [e] at g; cases g)))) (fun B V e I1 L1 u1 c1 f1 => j0 o1 (c_forget (fun I2 w1 w2 w3 f2 => ?_)))
  obtain ⟨nx, x1, x2, x3, x4⟩ := u1
  rw [f2 46 (by omega), x3]
  refine hQ _ _ _ (fun Q2 h2 => ?_)
  have hV : VC I2 L1 B V t n := ⟨c1.frame (fun q a b => ⟨f2 q (by omega), rfl⟩), UR.frame ⟨nx, x1, x2, x3, x4⟩ (fun q a b => ⟨f2 q (by omega), rfl⟩), hc.2.2.1.fr1 ((f2 1 (by omega)).trans (f1 1 (by omega) (by omega)).1), by rw [f2 0 (by omega), (f1 0 (by omega) (by omega)).1]; exact hc.2.2.2.1, Or.inl w1, Or.inl w2, Or.inl w3⟩
  have hr' : VR I2 A U t n := hr.fr (fun j hj => (f2 j (by omega)).trans (f1 j (by omega) (by omega)).1)
  refine r_undo hr'.2.1 (fun g => by rw [e] at g; cases g) (fun B' V' e' I3 u3 r3 f3 f4 => ?_)
  rw [e] at e'
  cases e'
  exact h2 _ (Iv.mk' hV ⟨r3, u3, by rw [f4 6 (by omega)]; exact hr'.2.2.1, by rw [f3 340 (by omega) (by omega)]; exact hr'.2.2.2⟩ (fun j hj => f3 j (by omega) (by omega)) (hu B (by rw [e]; exact List.mem_cons_self)).up (fun C hC => (hu C (by rw [e]; exact List.mem_cons_of_mem _ hC)).up))
end ACTS
