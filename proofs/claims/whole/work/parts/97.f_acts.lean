/-! the acts that change the plan, side by side -/
theorem rngG {v : Int32} {lo hi : Nat} (hlo : lo < 2 ^ 31) (hhi : hi < 2 ^ 31) (h0 : ¬ v < nI lo) (h1 : ¬ nI hi < v) : ∃ j, lo ≤ j ∧ j ≤ hi ∧ v = nI j := by
  have a : ¬ v < 0 := fun z => h0 (Int32.lt_iff_toInt_lt.mpr (by
    rw [nI_toInt hlo]
    have := Int32.lt_iff_toInt_lt.mp z
    have e : (0 : Int32).toInt = 0 := by decide
    omega))
  obtain ⟨j, hj, rfl⟩ := nI_of a
  refine ⟨j, ?_, ?_, rfl⟩
  · rcases Nat.lt_or_ge j lo with g | g
    · exact absurd (nI_lt g hlo) h0
    · exact g
  · rcases Nat.lt_or_ge hi j with g | g
    · exact absurd (nI_lt g hj) h1
    · exact g
theorem inY {lo hi j : Nat} {Q : Int32 → Prop} (h1 : lo ≤ j) (h2 : j ≤ hi) (hh : hi < 2 ^ 31) (hQ : Q 1) : wp_X10_isIn (nI j) (nI lo) (nI hi) Q :=
  i0 (nI_nlt h1 (by omega)) (i0 (nI_nlt h2 hh) hQ)
theorem inN {lo hi : Nat} {v : Int32} {Q : Int32 → Prop} (hlo : lo < 2 ^ 31) (hhi : hi < 2 ^ 31) (hn : ∀ j, lo ≤ j → j ≤ hi → ¬ v = nI j) (hQ : Q 0) : wp_X10_isIn v (nI lo) (nI hi) Q :=
  ⟨fun _ => hQ, fun z => ⟨fun _ => hQ, fun z2 => by obtain ⟨j, a, b, c⟩ := rngG hlo hhi z z2; exact absurd c (hn j a b)⟩⟩
section PLANS
variable {k : Nat} {I I' I1 : MI} {L : ML} {A B C : St} {U : List St} {t : Nat → Nat} {n : Nat} {Y : List (Nat × Nat × Nat × Nat)} {a b c d e : Int32}
theorem ri9 {q p : Nat} (hp : p < 4) : ri 9 (4 * q + p) = 50 + (3 * q + p) := by
  show 50 + (3 * ((4 * q + p) / 4) + (4 * q + p) % 4) = _
  omega
theorem SetOk.setc {j q v : Nat} (hs : SetOk A) (hv : vc A q) (hj : j = 8 ∧ v ≤ 12 ∨ j = 9 ∧ v ≤ 10) : SetOk (setN A j q v) := by
  obtain ⟨s1, s7, s8, s9, s10, s11, s12, s13⟩ := hs
  have e : ∀ r, r ≠ j → sN (setN A j q v) r = sN A r := fun r h => setN_ne h
  have hvc : ∀ r, vc (setN A j q v) r ↔ vc A r := vc_eq (e 1 (by omega))
  unfold SetOk
  rw [e 1 (by omega), e 2 (by omega), e 3 (by omega), e 4 (by omega), e 5 (by omega), e 6 (by omega), e 7 (by omega)]
  refine ⟨s1, s7, s8, s9, fun r hr => ?_, fun r hr hn => ?_, s12, s13⟩
  · have := s10 r hr
    rw [setN_at, setN_at]
    refine ⟨this.1, ?_, ?_⟩
    · split <;> omega
    · split <;> omega
  · have hn' : ¬ vc A r := fun z => hn ((hvc r).mpr z)
    have := s11 r hr hn'
    have hne : r ≠ q := fun z => hn' (z ▸ hv)
    rw [setN_at, setN_at, if_neg (by omega), if_neg (by omega)]
    exact this
theorem SetOk.setp {j q v : Nat} (hs : SetOk A) (hq : q < sN A 1 0) (hj : j = 2 ∧ 1 ≤ v ∧ v ≤ 30 ∨ j = 3 ∧ v ≤ 9 ∨ j = 4 ∧ 1 ≤ v ∧ v ≤ 9 ∨ j = 5 ∧ v ≤ 9) : SetOk (setN A j q v) := by
  obtain ⟨s1, s7, s8, s9, s10, s11, s12, s13⟩ := hs
  have e : ∀ r, r ≠ j → sN (setN A j q v) r = sN A r := fun r h => setN_ne h
  have hvc : ∀ r, vc (setN A j q v) r ↔ vc A r := vc_eq (e 1 (by omega))
  unfold SetOk
  rw [e 1 (by omega), e 6 (by omega), e 7 (by omega), e 8 (by omega), e 9 (by omega)]
  refine ⟨s1, fun r hr => ?_, fun r hr => ?_, s9, s10, fun r hr hn => s11 r hr (fun z => hn ((hvc r).mpr z)), fun r hr hn => ?_, s13⟩
  · have := s7 r hr
    rw [setN_at, setN_at, setN_at, setN_at]
    refine ⟨?_, ?_, ?_, ?_, this.2.2.2.2⟩ <;> split <;> omega
  · have := s8 r hr
    rw [setN_at, setN_at]
    refine ⟨?_, ?_⟩ <;> split <;> omega
  · have := s12 r hr hn
    rw [setN_at, setN_at, setN_at, setN_at, if_neg (by omega), if_neg (by omega), if_neg (by omega), if_neg (by omega)]
    exact this
theorem PG.set {j i v : Nat} (h : PG k A) (hs : SetOk (setN A j i v)) (hj : (j = 1 ∧ 3 ≤ i) ∨ j = 2 ∨ j = 3 ∨ j = 4 ∨ j = 8) : PG (k + 1) (setN A j i v) := by
  have e : ∀ r, r ≠ j → sN (setN A j i v) r = sN A r := fun r h => setN_ne h
  refine ⟨⟨hs, h.1.2.1.set (by omega), h.1.2.2.set (by omega) (by omega)⟩, fun r hr => ?_, ?_, ?_, ?_⟩
  · rw [e 9 (by omega)]; exact h.2.1 r hr
  · rw [e 0 (by omega)]; exact h.2.2.1
  · rw [TP_lo (by omega) (by omega)]
    unfold cap
    rw [e 7 (by omega), e 9 (by omega), e 5 (by omega)]
    exact h.2.2.2.1
  · rw [e 0 (by omega)]; have := h.2.2.2.2; omega
theorem SP.tr (h : SP A B) (h2 : SP B C) : SP A C := ⟨h2.1.trans h.1, h2.2.1.trans h.2.1, h2.2.2.1.trans h.2.2.1, h2.2.2.2.1.trans h.2.2.2.1, h2.2.2.2.2.trans h.2.2.2.2⟩
theorem SP.set {j i v : Nat} (hj : (j = 1 ∧ 2 ≤ i) ∨ (j ≠ 1 ∧ j ≠ 2 ∧ j ≠ 7 ∧ j ≠ 8)) : SP A (setN A j i v) := by
  refine ⟨?_, ?_, setN_ne (by omega), setN_ne (by omega), setN_ne (by omega)⟩
  · rw [setN_at, if_neg (by omega)]
  · rw [setN_at, if_neg (by omega)]
theorem VC.put {j i w : Nat} (h : VC I L A U t n) (hn : nd j i) (hj : j < 22) (e : I' = u2 I (2 + j) i (nI w)) (sp : SP A (setN A j i w)) : VC I' L (setN A j i w) U t n := h.op (h.1.putN hn e) (Fr.uI e hj) sp
theorem VC.putF {j i w : Nat} (h : VC I L A U t n) (w1 : I1 326 10 = 0) (w2 : I1 326 11 = 0) (w3 : I1 326 12 = 0) (f : ∀ q, q ≠ 326 → I1 q = I q) (hn : nd j i) (hj : j < 22) (e : I' = u2 I1 (2 + j) i (nI w)) : VC I' L (setN A j i w) U t n := by
  have h1 : CR 2 I1 L A := h.1.frame (fun q a b => ⟨f q (by omega), rfl⟩)
  have fe : ∀ q, q ≠ 2 + j → I' q = I1 q := fun q hq => by rw [e, u2_ne hq]
  exact ⟨h1.putN hn e, h.2.1.frame (fun q a b => ⟨(fe q (by omega)).trans (f q (by omega)), rfl⟩), h.2.2.1.fr1 ((fe 1 (by omega)).trans (f 1 (by omega))), by rw [fe 0 (by omega), f 0 (by omega)]; exact h.2.2.2.1, Or.inl (by rw [fe 326 (by omega)]; exact w1), Or.inl (by rw [fe 326 (by omega)]; exact w2), Or.inl (by rw [fe 326 (by omega)]; exact w3)⟩
theorem vr_puts {j i w : Nat} {v1 v2 : Int32} {Q : Int32 → MI → Prop} (h : VR I A U t n) (hrd : rd j i = true) (hpl : v1 = nI (ri j i)) (hv : v2 = nI w) (hQ : ∀ I', VR I' (setN A j i w) ((A :: U).take 12) t n → LC I I' → Q (nI (sN A j i)) I') : wp_X10_puts I v1 v2 Q := by
  subst hpl
  subst hv
  have hl := rd_lt hrd
  have h92 := (ivA j hl.1 i hl.2 hrd).2.2.1
  have vp : vp_in (nI (ri j i)) 2212 := vp_in_nI (by omega) (by omega)
  unfold wp_X10_puts
  refine vr_rem h (fun I1 v1 l1 => ⟨vp, vp, fun I4 e4 => ?_⟩)
  rw [ix_nI (by omega)] at e4 ⊢
  obtain ⟨Z, hZ⟩ := v1.1
  rw [hZ.n hrd]
  exact hQ _ (v1.op ⟨Z, hZ.putN hrd e4⟩ (RF.u e4).g) (l1.tr (RF.u e4).lc)
theorem m_keep {Q : Int32 → MI → ML → Prop} (h : Iv k I L) (hQ : ∀ x I' L', (∀ Q2 : Int32 → MI → Prop, (∀ I'', Iv (k + 1) I'' L' → Q2 x I'') → wp_X10_keep I' a Q2) → Q x I' L') : wp_X9_keep I L a Q := by
  have h0 := h.up
  obtain ⟨A, U, t, n, hc, hr, hp, hu⟩ := h
  have hs := hp.1.1
  obtain ⟨Y, hY⟩ := hr.1
  have h4 := hs.1.2.2.2.2.1
  have e3 : I 3 3 = nI (sN A 1 3) := hc.1.n (nd1 (by omega))
  have r3 : ∀ {J : MI} {Z : List (Nat × Nat × Nat × Nat)}, RR J A Z → J 337 (ix 3) = nI (sN A 1 3) := fun hJ => hJ.n (j := 1) (i := 3) (by decide)
  unfold wp_X9_keep
  rw [e3]
  have no : (∀ j, 0 ≤ j → j ≤ 4 → ¬ a = nI j) ∨ a = nI (sN A 1 3) → Q (-1) I L := by
    intro hn
    refine hQ _ _ _ (fun Q2 h2 => ?_)
    unfold wp_X10_keep
    rcases hn with hn | rfl
    · exact inN (lo := 0) (hi := 4) (by omega) (by omega) hn (i1 rfl (h2 _ h0))
    · refine inY (lo := 0) (hi := 4) (by omega) h4 (by omega) (i0 o1 ⟨v3, ?_⟩)
      rw [r3 hY]
      exact i1 rfl (h2 _ h0)
  by_cases hv : ∃ j, 0 ≤ j ∧ j ≤ 4 ∧ a = nI j
  · obtain ⟨j, -, hj, rfl⟩ := hv
    refine i0 (nI_pos (by omega)) (i0 (nI_nlt (a := 4) (b := j) hj (by omega)) ⟨fun hne => ?_, fun he => no (Or.inr he)⟩)
    refine vc_rem hc (fun I1 L1 v1 f1 I2 e2 => hQ _ _ _ (fun Q2 h2 => ?_))
    have hV := v1.put (j := 1) (i := 3) (w := j) (nd1 (by omega)) (by omega) e2 (SP.set (by omega))
    have hr' := hr.fr (f1.tr (Fr.uI (o := 2) (j := 1) (L := L1) e2 (by omega)).hc)
    obtain ⟨Y', hY'⟩ := hr'.1
    unfold wp_X10_keep
    refine inY (lo := 0) (hi := 4) (by omega) hj (by omega) (i0 o1 ⟨v3, ?_⟩)
    rw [r3 hY']
    exact i0 (fun z => hne z.symm) (vr_puts (j := 1) (i := 3) hr' (by decide) rfl rfl (fun I4 v4 l4 => h2 _ (Iv.mk' hV v4 l4 (hp.set (hs.set1 (by omega) (fun _ => hj) (by omega) (by omega)) (by omega)) (PGs_rem hu hp))))
  · have hn : ∀ j, 0 ≤ j → j ≤ 4 → ¬ a = nI j := fun j x y z => hv ⟨j, x, y, z⟩
    exact ⟨fun _ => no (Or.inl hn), fun z => ⟨fun _ => no (Or.inl hn), fun z2 => absurd (rngG (lo := 0) (hi := 4) (by omega) (by omega) z z2) hv⟩⟩
theorem m_rule {Q : Int32 → MI → ML → Prop} (h : Iv k I L) (hQ : ∀ x I' L', (∀ Q2 : Int32 → MI → Prop, (∀ I'', Iv (k + 1) I'' L' → Q2 x I'') → wp_X10_rule I' Q2) → Q x I' L') : wp_X9_rule I L Q := by
  obtain ⟨A, U, t, n, hc, hr, hp, hu⟩ := h
  have hs := hp.1.1
  have h4 := hs.1.2.2.2.2.2
  have e3 : I 3 4 = nI (sN A 1 4) := hc.1.n (nd1 (by omega))
  have e1 : (1 : Int32) - nI (sN A 1 4) = nI (1 - sN A 1 4) := pk_sub (a := 1) h4
  unfold wp_X9_rule
  rw [e3, e1]
  refine vc_rem hc (fun I1 L1 v1 f1 I2 e2 => hQ _ _ _ (fun Q2 h2 => ?_))
  have hV := v1.put (j := 1) (i := 4) (w := 1 - sN A 1 4) (nd1 (by omega)) (by omega) e2 (SP.set (by omega))
  have hr' := hr.fr (f1.tr (Fr.uI (o := 2) (j := 1) (L := L1) e2 (by omega)).hc)
  obtain ⟨Y', hY'⟩ := hr'.1
  unfold wp_X10_rule
  refine ⟨v4, ?_⟩
  rw [show I2 337 (ix 4) = nI (sN A 1 4) from hY'.n (j := 1) (i := 4) (by decide), e1]
  exact vr_puts (j := 1) (i := 4) hr' (by decide) rfl rfl (fun I4 v4 l4 => h2 _ (Iv.mk' hV v4 l4 (hp.set (hs.set1 (by omega) (by omega) (fun _ => by omega) (by omega)) (by omega)) (PGs_rem hu hp)))
theorem PG_bench {m : Nat} (hp : PG k A) (hs : SetOk (setN A 1 2 m)) : PG (k + 1) (fill 3 (setN A 1 2 m)) ∧ SP A (fill 3 (setN A 1 2 m)) := by
  have hd : DynOk (setN A 1 2 m) := hp.1.2.1.set (by omega)
  have e : ∀ r, r ≠ 1 → sN (setN A 1 2 m) r = sN A r := fun r h => setN_ne h
  obtain ⟨f1, f2, f3⟩ := fill_ok 3 hs hd
  have fp := (ps_fill 3 hs hd).1
  have hl : PL (setN A 1 2 m) (fill 3 (setN A 1 2 m)) := fp.2.1
  have hy : YD (setN A 1 2 m) (sN (setN A 1 2 m) 0 9 + 1) := by
    have := hp.1.2.2.1
    unfold YD at this ⊢
    rw [e 0 (by omega)]
    exact this
  refine ⟨⟨⟨f1, f2, ?_, fullQ_fill hs hd⟩, fun r hr => ?_, ?_, ?_, ?_⟩, SP.tr (SP.set (by omega)) hl.sp⟩
  · rw [fp.1]; exact fp.yd hy (Nat.le_refl _)
  · rw [hl 9 (by omega) (by omega), e 9 (by omega)]; exact hp.2.1 r hr
  · rw [fp.1, e 0 (by omega)]; exact hp.2.2.1
  · refine Nat.le_trans (TP_fill 3 _) ?_
    rw [TP_lo (by omega) (by omega), cap_PL hl]
    unfold cap
    rw [e 7 (by omega), e 9 (by omega), e 5 (by omega)]
    exact hp.2.2.2.1
  · rw [e 0 (by omega)] at f3
    have := hp.2.2.2.2
    omega
theorem m_benches {Q : Int32 → MI → ML → Prop} (hk : k ≤ 512) (h : Iv k I L) (hQ : ∀ x I' L', (∀ Q2 : Int32 → MI → Prop, (∀ I'', Iv (k + 1) I'' L' → Q2 x I'') → wp_X10_benches I' a Q2) → Q x I' L') : wp_X9_benches I L a Q := by
  have h0 := h.up
  obtain ⟨A, U, t, n, hc, hr, hp, hu⟩ := h
  have hs := hp.1.1
  have hbd := hp.2.2.2.2
  obtain ⟨Y, hY⟩ := hr.1
  have h4 := hs.1.2.2
  have e3 : I 3 2 = nI (sN A 1 2) := hc.1.n (nd1 (by omega))
  have r3 : ∀ {J : MI} {Z : List (Nat × Nat × Nat × Nat)}, RR J A Z → J 337 (ix 2) = nI (sN A 1 2) := fun hJ => hJ.n (j := 1) (i := 2) (by decide)
  unfold wp_X9_benches
  rw [e3]
  have no : (∀ j, 1 ≤ j → j ≤ 3 → ¬ a = nI j) ∨ a = nI (sN A 1 2) → Q (-1) I L := by
    intro hn
    refine hQ _ _ _ (fun Q2 h2 => ?_)
    unfold wp_X10_benches
    rcases hn with hn | rfl
    · exact inN (lo := 1) (hi := 3) (by omega) (by omega) hn (i1 rfl (h2 _ h0))
    · refine inY (lo := 1) (hi := 3) h4.1 h4.2.1 (by omega) (i0 o1 ⟨v2, ?_⟩)
      rw [r3 hY]
      exact j1 rfl (h2 _ h0)
  by_cases hv : ∃ j, 1 ≤ j ∧ j ≤ 3 ∧ a = nI j
  · obtain ⟨j, hj1, hj, rfl⟩ := hv
    refine i0 (nI_nlt (a := j) (b := 1) hj1 (by omega)) (i0 (nI_nlt (a := 3) (b := j) hj (by omega)) ⟨fun hne => ?_, fun he => no (Or.inr he)⟩)
    have hs' : SetOk (setN A 1 2 j) := hs.set1 (fun _ => ⟨hj1, hj⟩) (by omega) (by omega) (by omega)
    have hd' : DynOk (setN A 1 2 j) := hp.1.2.1.set (by omega)
    obtain ⟨hP, hS⟩ := PG_bench hp hs'
    refine vc_rem hc (fun I1 L1 v1 f1 => c_haveBenches v1.1 hs' hd' (by omega) (fun I2 L2 c2 f2 => hQ _ _ _ (fun Q2 h2 => ?_)))
    have hV := v1.op c2 f2 hS
    have hr' := hr.fr (f1.tr f2.hc)
    obtain ⟨Y', hY'⟩ := hr'.1
    unfold wp_X10_benches
    refine inY (lo := 1) (hi := 3) hj1 hj (by omega) (i0 o1 ⟨v2, ?_⟩)
    rw [r3 hY']
    exact j0 (fun z => hne z.symm) (vr_puts (j := 1) (i := 2) hr' (by decide) rfl rfl (fun I4 v4 l4 => r_loads v4.1 hs' hd' (fun I5 r5 f5 => h2 _ (Iv.mk' hV (v4.op r5 f5.g) (l4.tr f5.lc) hP (PGs_rem hu hp)))))
  · have hn : ∀ j, 1 ≤ j → j ≤ 3 → ¬ a = nI j := fun j x y z => hv ⟨j, x, y, z⟩
    exact ⟨fun _ => no (Or.inl hn), fun z => ⟨fun _ => no (Or.inl hn), fun z2 => absurd (rngG (lo := 1) (hi := 3) (by omega) (by omega) z z2) hv⟩⟩
theorem m_odds {Q : Int32 → MI → ML → Prop} (h : Iv k I L) (hQ : ∀ x I' L', (∀ Q2 : Int32 → MI → Prop, (∀ I'', Iv (k + 1) I'' L' → Q2 x I'') → wp_X10_odds I' a b c Q2) → Q x I' L') : wp_X9_odds I L a b c Q := by
  have h0 := h.up
  obtain ⟨A, U, t, n, hc, hr, hp, hu⟩ := h
  have hs := hp.1.1
  obtain ⟨Y, hY⟩ := hr.1
  unfold wp_X9_odds
  by_cases hv : IC A a b
  · obtain ⟨⟨b', hb, rfl⟩, ⟨p, hp', rfl⟩⟩ := hv
    obtain ⟨hvc, hb3, hp3⟩ := vc_of hs hb hp'
    have h16 : 4 * b' + p < 16 := by omega
    have hrd : rd 8 (4 * b' + p) = true := rdc (by omega) (by omega) (by omega) (by omega)
    have pl : (41 : Int32) + nI (3 * b' + p) = nI (ri 8 (4 * b' + p)) := by rw [ri8 (by omega)]; exact nI_add 41 _
    have l92 := (ivA 8 (by omega) _ h16 hrd).2.2.1
    have r3 : ∀ {J : MI} {Z : List (Nat × Nat × Nat × Nat)}, RR J A Z → J 337 (ix (41 + nI (3 * b' + p))) = nI (sN A 8 (4 * b' + p)) := fun hJ => by rw [pl, ix_nI (by omega)]; exact hJ.n hrd
    have vp : vp_in ((41 : Int32) + nI (3 * b' + p)) 2212 := by rw [pl]; exact vp_in_nI (by omega) (by omega)
    have no : (∀ j, 0 ≤ j → j ≤ 12 → ¬ c = nI j) ∨ nI (sN A 8 (4 * b' + p)) = c → Q (-1) I L := by
      intro hn
      refine hQ _ _ _ (fun Q2 h2 => ?_)
      unfold wp_X10_odds
      refine rY hY hs hb hp' (i0 o1 ?_)
      rcases hn with hn | rfl
      · exact inN (lo := 0) (hi := 12) (by omega) (by omega) hn (i1 rfl (h2 _ h0))
      · refine inY (lo := 0) (hi := 12) (by omega) (hs.2.2.2.2.1 _ h16).2.1 (by omega) (i0 o1 (r_cellOf ⟨vp, ?_⟩))
        rw [r3 hY]
        exact j1 rfl (h2 _ h0)
    refine cY hc.1 hs hb hp' (i0 o1 ?_)
    by_cases hcv : ∃ j, 0 ≤ j ∧ j ≤ 12 ∧ c = nI j
    · obtain ⟨j, -, hj, rfl⟩ := hcv
      refine i0 (nI_pos (by omega)) (i1 (nI_le (a := j) (b := 12) hj (by omega)) (s_placeOf ⟨vp_in_nI (by omega) (by omega), ?_⟩))
      rw [ix_nI (by omega), show I 10 (4 * b' + p) = nI (sN A 8 (4 * b' + p)) from hc.1.n (nd8 h16)]
      refine ⟨fun hne => ?_, fun he => no (Or.inr he)⟩
      refine vc_rem hc (fun I1 L1 v1 f1 => c_forget (fun I2 w1 w2 w3 f2 => ⟨vp_in_nI (by omega) (by omega), fun I3 e3 => hQ _ _ _ (fun Q2 h2 => ?_)⟩))
      have hV := v1.putF w1 w2 w3 f2 (j := 8) (nd8 h16) (by omega) e3
      have hh : HC I1 I3 := fun j hj => by rw [e3, u2_ne (by omega)]; exact f2 j (by omega)
      have hr' := hr.fr (f1.tr hh)
      obtain ⟨Y', hY'⟩ := hr'.1
      unfold wp_X10_odds
      refine rY hY' hs hb hp' (i0 o1 (inY (lo := 0) (hi := 12) (by omega) hj (by omega) (i0 o1 (r_cellOf ⟨vp, ?_⟩))))
      rw [r3 hY']
      exact j0 hne (r_cellOf (vr_puts hr' hrd pl rfl (fun I4 v4 l4 => h2 _ (Iv.mk' hV v4 l4 (hp.set (hs.setc hvc (by omega)) (by omega)) (PGs_rem hu hp)))))
    · have hn : ∀ j, 0 ≤ j → j ≤ 12 → ¬ c = nI j := fun j x y z => hcv ⟨j, x, y, z⟩
      exact ⟨fun _ => no (Or.inl hn), fun z => ⟨fun z2 => absurd (rngG (lo := 0) (hi := 12) (by omega) (by omega) z (fun g => absurd z2 (Int32.not_le.mpr g))) hcv, fun _ => no (Or.inl hn)⟩⟩
  · refine cN hc.1 hs hv (i1 rfl (hQ _ _ _ (fun Q2 h2 => ?_)))
    unfold wp_X10_odds
    exact rN hY hs hv (i1 rfl (h2 _ h0))
end PLANS
