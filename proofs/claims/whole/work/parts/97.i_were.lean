/-! what were, side by side -/
section WERE
variable {k : Nat} {I I' I1 I2 I3 : MI} {L L' : ML} {A B C : St} {U : List St} {t : Nat → Nat} {n : Nat} {Y : List (Nat × Nat × Nat × Nat)} {a b c d e : Int32}
theorem vr_back (h : VR I A U t n) (c1 : ∀ s, s < 2212 → I1 338 s = I 337 s) (f1 : ∀ a, a ≠ 338 → I1 a = I a) (g : RG I1 I2) (c3 : ∀ s, s < 2212 → I3 337 s = I2 338 s) (f3 : ∀ a, a ≠ 337 → I3 a = I2 a) : VR I3 A U t n ∧ LC I I3 := by
  obtain ⟨⟨Y, hY⟩, h2, h3, h4⟩ := h
  have e336 : ∀ s, s ≠ 13 → I3 336 s = I 336 s := fun s hs => by rw [f3 336 (by omega), g.2 s hs, f1 336 (by omega)]
  have eo : ∀ q, q ≠ 336 → q ≠ 337 → q ≠ 338 → I3 q = I q := fun q x y z => by rw [f3 q y, g.1 q x y, f1 q z]
  refine ⟨⟨⟨Y, hY.cp (fun s hs => by rw [c3 s hs, g.1 338 (by omega) (by omega), c1 s hs])⟩, h2.fr (e336 4 (by omega)) (eo 339 (by omega) (by omega) (by omega)), by rw [e336 6 (by omega)]; exact h3, by rw [eo 340 (by omega) (by omega) (by omega)]; exact h4⟩, fun j hj => eo j (by omega) (by omega) (by omega)⟩
theorem vr_aside (h : VR I A U t n) (c1 : ∀ s, s < 2212 → I1 338 s = I 337 s) (f1 : ∀ a, a ≠ 338 → I1 a = I a) : ∃ Y, RR I1 A Y := by
  obtain ⟨⟨Y, hY⟩, -⟩ := h
  exact ⟨Y, hY.cg (f1 337 (by omega))⟩
theorem tell_no {v : Int32} (hn : ∀ j, 0 ≤ j → j ≤ 10 → ¬ v = nI j) : tellV A v = -1 := by
  unfold tellV
  rw [if_neg (show ¬ v = 0 from hn 0 (by omega) (by omega)), if_neg (show ¬ v = 1 from hn 1 (by omega) (by omega)), if_neg (show ¬ v = 2 from hn 2 (by omega) (by omega)), if_neg (show ¬ v = 3 from hn 3 (by omega) (by omega)), if_neg (show ¬ v = 4 from hn 4 (by omega) (by omega)), if_neg (show ¬ v = 5 from hn 5 (by omega) (by omega)), if_neg (show ¬ v = 6 from hn 6 (by omega) (by omega)), if_neg (show ¬ v = 7 from hn 7 (by omega) (by omega)), if_neg (show ¬ v = 8 from hn 8 (by omega) (by omega)), if_neg (show ¬ v = 9 from hn 9 (by omega) (by omega)), if_neg (show ¬ v = 10 from hn 10 (by omega) (by omega))]
theorem r_wouldV {m : Nat} {x v : Int32} {Q : Int32 → MI → Prop} (hk : k ≤ 512) (h : VR I A U t n) (hp : PG k A) (hd : dayOk A (nI m) 12) (hm : m ≤ 12) (h9 : sN A 0 9 + m ≤ 9999) (hQ : ∀ I', VR I' A U t n → LC I I' → Q (tellV (drawD fxx m (x, A)).2 v) I') : wp_X10_would I (nI m) x v Q := by
  have hbd := hp.2.2.2.2
  obtain ⟨Y, hY⟩ := h.1
  unfold wp_X10_would
  refine r_areDays hY (fun _ => i0 o1 ?_) (fun z => absurd hd z)
  by_cases hv : ∃ j, 0 ≤ j ∧ j ≤ 10 ∧ v = nI j
  · obtain ⟨j, -, hj, rfl⟩ := hv
    refine inY (lo := 0) (hi := 10) (by omega) hj (by omega) (j0 o1 (r_putAside (fun I1 c1 f1 => r_runs (f := fxx) (fun _ => rfl) (vr_aside h c1 f1) hp.1 (by omega) (by omega) (by omega) (fun I2 r2 g2 => ?_))))
    obtain ⟨Z, hZ⟩ := r2
    refine r_played hZ (r_bringBack (fun I3 c3 f3 => ?_))
    obtain ⟨q1, q2⟩ := vr_back h c1 f1 g2 c3 f3
    exact hQ I3 q1 q2
  · have hn : ∀ j, 0 ≤ j → j ≤ 10 → ¬ v = nI j := fun j x y z => hv ⟨j, x, y, z⟩
    have := hQ I h LC.rf
    rw [tell_no hn] at this
    exact inN (lo := 0) (hi := 10) (by omega) (by omega) hn (j1 rfl this)
theorem m_would {Q : Int32 → MI → ML → Prop} (hk : k ≤ 512) (h : Iv k I L) (hQ : ∀ x I' L', (∀ Q2 : Int32 → MI → Prop, (∀ I'', Iv (k + 1) I'' L' → Q2 x I'') → wp_X10_would I' a b c Q2) → Q x I' L') : wp_X9_would I L a b c Q := by
  have h0 := h.up
  obtain ⟨A, U, t, n, hc, hr, hp, hu⟩ := h
  have hbd := hp.2.2.2.2
  have h9 := hp.2.2.1
  obtain ⟨Y, hY⟩ := hr.1
  unfold wp_X9_would
  refine c_canGoBy hc.1 (fun hd => j0 o1 ?_) (fun hd => j1 rfl (hQ _ _ _ (fun Q2 h2 => ?_)))
  · obtain ⟨m, em, m1, m2, m3⟩ := dayOk.nat (m := 12) (by omega) hd h9
    subst em
    obtain ⟨g, l, d, s⟩ := drawD_ok fxx m (b, A) hp.1 (show sN A 0 9 + m ≤ 10000 by omega)
    have s' : sN (drawD fxx m (b, A)).2 0 10 ≤ sN A 0 10 + 37000 * m := s
    refine c_copyFrom (Or.inl (by omega)) hc.1 (fun I1 L1 c1 f1 => c_drawDays (f := fxx) (fun _ => rfl) c1 hp.1 (by omega) (by omega) (by omega) (fun I2 L2 c2 f2 => c_tell c2 (g.2.1.wf g.1 (by omega)) g.2.1 (hQ _ _ _ (fun Q2 h2 => ?_))))
    exact r_wouldV hk (hr.fr (f1.tr f2).hc24) hp hd m2 m3 (fun I3 v3 l3 => h2 _ (Iv.mk' (hc.were (f1.tr f2)) v3 l3 hp.up (PGs_up hu)))
  · unfold wp_X10_would
    exact r_areDays hY (fun z => absurd z hd) (fun _ => i1 rfl (h2 _ h0))
theorem c_lbr {m : Nat} {x : Int32} {Q : Int32 → MI → ML → Prop} (hC : CR 24 I L B) (hg : Good B) (hm : m ≤ 12) (h9 : sN B 0 9 + m ≤ 9999) (hb : sN B 0 10 + 1000000 < 2 ^ 30) (hQ : ∀ I' L', Fr 24 I L I' L' → Q (lateV (drawD fxx m (x, B)).2) I' L') : wp_X9_lateBehindRun I L (nI m) x Q := by
  unfold wp_X9_lateBehindRun
  obtain ⟨g, l, d, s⟩ := drawD_ok fxx m (x, B) hg (show sN B 0 9 + m ≤ 10000 by omega)
  have s' : sN (drawD fxx m (x, B)).2 0 10 ≤ sN B 0 10 + 37000 * m := s
  exact c_drawDays (f := fxx) (fun _ => rfl) hC hg (by omega) (by omega) (by omega) (fun I2 L2 c2 f2 => c_late c2 (g.2.1.wf g.1 (by omega)) (hQ _ _ f2))
theorem recv_good {q : Nat} (hg : Good B) (htp : TP B ≤ 182) (hv : vc B q) (hq : q < 16) : Good (recv B q) ∧ sN (recv B q) 0 9 = sN B 0 9 ∧ sN (recv B q) 0 10 = sN B 0 10 := by
  obtain ⟨r1, r2, r3, r4⟩ := recv_ok hg.1 hg.2.1 hv
  obtain ⟨p1, p2, p3⟩ := ps_recv (A := B) (c := q)
  have := TP_recv (A := B) hq
  refine ⟨⟨r1, r2.tp (by omega), ?_, ?_⟩, r4, r3⟩
  · rw [p1.1]; exact p1.yd hg.2.2.1 (Nat.le_refl _)
  · have := hg.2.2.2
    unfold fullQ at this ⊢
    rw [p2, p3, p1.2.1 1 (by omega) (by omega)]
    exact this
theorem setN_stk {q v : Nat} : setN A 9 q v = stk (sN (setN A 9 q v) 9) A := by
  unfold stk
  refine Prod.ext ?_ rfl
  funext j
  show (setN A 9 q v).1 j = if j = 9 then sN (setN A 9 q v) 9 else A.1 j
  by_cases hj : j = 9
  · subst hj; rw [if_pos rfl]
  · rw [if_neg hj]; exact u2_ne hj
theorem late_stk {s : Nat → Nat} : lateV (stk s A) = lateV A := by
  unfold lateV
  rw [stk_N (by omega)]
  rfl
theorem sparedV {q v m : Nat} {x : Int32} : lateV (drawD fxx m (x, recv (setN A 9 q v) q)).2 = lateV (drawD fxx m (x, recv A q)).2 := by
  rw [setN_stk, stk_recv, stk_drawD]
  exact late_stk
theorem m_spared {Q : Int32 → MI → ML → Prop} (hk : k ≤ 512) (h : Iv k I L) (hQ : ∀ x I' L', (∀ Q2 : Int32 → MI → Prop, (∀ I'', Iv (k + 1) I'' L' → Q2 x I'') → wp_X10_spared I' a b c d Q2) → Q x I' L') : wp_X9_spared I L a b c d Q := by
  have h0 := h.up
  obtain ⟨A, U, t, n, hc, hr, hp, hu⟩ := h
  have hs := hp.1.1
  have hbd := hp.2.2.2.2
  have h9 := hp.2.2.1
  have hcap := cap_le hs hp.2.1
  have htp := hp.2.2.2.1
  obtain ⟨Y, hY⟩ := hr.1
  unfold wp_X9_spared
  refine c_canGoBy hc.1 (fun hd => i0 o1 ?_) (fun hd => i1 rfl (hQ _ _ _ (fun Q2 h2 => ?_)))
  · by_cases hv : IC A c d
    · obtain ⟨⟨b', hb, rfl⟩, ⟨p, hp', rfl⟩⟩ := hv
      obtain ⟨hvc, hb3, hp3⟩ := vc_of hs hb hp'
      have h16 : 4 * b' + p < 16 := by omega
      obtain ⟨m, em, m1, m2, m3⟩ := dayOk.nat (m := 12) (by omega) hd h9
      subst em
      obtain ⟨g1, g2, g3⟩ := recv_good hp.1 (by omega) hvc h16
      refine cY hc.1 hs hb hp' (j0 o1 (c_copyFrom (Or.inl (by omega)) hc.1 (fun I1 L1 c1 f1 => c_lbr c1 hp.1 m2 m3 (by omega) (fun I2 L2 f2 => ?_))))
      have w2 := hc.were (f1.tr f2)
      refine c_copyFrom (Or.inl (by omega)) w2.1 (fun I3 L3 c3 f3 => s_placeOf (c_receive c3 hs hp.1.2.1 (by omega) (Nat.le_refl _) hvc (fun I4 L4 c4 f4 => c_lbr c4 g1 m2 (by omega) (by omega) (fun I5 L5 f5 => hQ _ _ _ (fun Q2 h2 => ?_)))))
      have w5 := w2.were ((f3.tr f4).tr f5)
      have hr' := hr.fr ((f1.tr f2).tr ((f3.tr f4).tr f5)).hc24
      obtain ⟨Y', hY'⟩ := hr'.1
      have hrd : rd 9 (4 * b' + p) = true := rdc (by omega) (by omega) (by omega) (by omega)
      have pl : (50 : Int32) + nI (3 * b' + p) = nI (ri 9 (4 * b' + p)) := by rw [ri9 (by omega)]; exact nI_add 50 _
      have l92 := (ivA 9 (by omega) _ h16 hrd).2.2.1
      have ixp : ix ((50 : Int32) + nI (3 * b' + p)) = ri 9 (4 * b' + p) := by rw [pl, ix_nI (by omega)]
      have vp : vp_in ((50 : Int32) + nI (3 * b' + p)) 2212 := by rw [pl]; exact vp_in_nI (by omega) (by omega)
      have hB : Good (setN A 9 (4 * b' + p) (sN A 9 (4 * b' + p) + 1)) := ⟨hs.setc hvc (by have := hp.2.1 _ h16; omega), hp.1.2.1.set (by omega), hp.1.2.2.set (by omega) (by omega)⟩
      have hvB : vc (setN A 9 (4 * b' + p) (sN A 9 (4 * b' + p) + 1)) (4 * b' + p) := (vc_eq (setN_ne (by omega)) _).mpr hvc
      obtain ⟨k1, k2, k3⟩ := recv_good hB (by rw [TP_lo (by omega) (by omega)]; omega) hvB h16
      rw [setN_ne (by omega)] at k2 k3
      unfold wp_X10_spared
      refine r_areDays hY' (fun _ => i0 o1 (rY hY' hs hb hp' (j0 o1 (r_wouldV hk hr' hp hd m2 m3 (fun I6 v6 l6 => r_putAside (fun I7 c7 f7 => r_cellOf ⟨vp, vp, fun I8 e8 => ?_⟩)))))) (fun z => absurd hd z)
      obtain ⟨Z, hZ⟩ := vr_aside v6 c7 f7
      rw [ixp, hZ.n hrd, nI_1] at e8
      have hZ8 := hZ.putN hrd e8
      refine r_comes' (by omega) ⟨Z, hZ8⟩ hB.1 hB.2.1 hvB (fun I9 r9 f9 => r_runs (f := fxx) (fun _ => rfl) r9 k1 (by omega) (by omega) (by omega) (fun I10 r10 g10 => ?_))
      obtain ⟨W, hW⟩ := r10
      refine r_late hW (r_bringBack (fun I11 c11 f11 => ?_))
      obtain ⟨q1, q2⟩ := vr_back v6 c7 f7 (((RF.u e8).g.tr f9.g).tr g10) c11 f11
      rw [sparedV]
      exact h2 _ (Iv.mk' w5 q1 (l6.tr q2) hp.up (PGs_up hu))
    · refine cN hc.1 hs hv (j1 rfl (hQ _ _ _ (fun Q2 h2 => ?_)))
      unfold wp_X10_spared
      exact r_areDays hY (fun _ => i0 o1 (rN hY hs hv (j1 rfl (h2 _ h0)))) (fun z => absurd hd z)
  · unfold wp_X10_spared
    exact r_areDays hY (fun z => absurd z hd) (fun _ => i1 rfl (h2 _ h0))
theorem m_quiet {Q : Int32 → MI → ML → Prop} (hk : k ≤ 512) (h : Iv k I L) (hQ : ∀ x I' L', (∀ Q2 : Int32 → MI → Prop, (∀ I'', Iv (k + 1) I'' L' → Q2 x I'') → wp_X10_quiet I' Q2) → Q x I' L') : wp_X9_quiet I L Q := by
  obtain ⟨A, U, t, n, hc, hr, hp, hu⟩ := h
  have hbd := hp.2.2.2.2
  unfold wp_X9_quiet
  refine c_copyFrom (Or.inl (by omega)) hc.1 (fun I1 L1 c1 f1 => c_goTillQuiet c1 hp.1 hp.2.2.1 (by omega) (fun I2 L2 f2 => hQ _ _ _ (fun Q2 h2 => ?_)))
  have hr' := hr.fr (f1.tr f2).hc24
  refine r_quiet hr'.1 hp.1 hp.2.2.1 (by omega) (fun I3 r3 f3 => h2 _ (Iv.mk' (hc.were (f1.tr f2)) ⟨r3, ?_, ?_, ?_⟩ (fun j hj => f3 j (by omega) (by omega)) hp.up (PGs_up hu)))
  · exact hr'.2.1.fr (by rw [f3 336 (by omega) (by omega)]) (f3 339 (by omega) (by omega))
  · rw [f3 336 (by omega) (by omega)]; exact hr'.2.2.1
  · rw [f3 340 (by omega) (by omega)]; exact hr'.2.2.2
/-- the state by another rule, keep or number of benches -/
def byS (A : St) (w v : Nat) : St := if w = 0 then setN A 1 4 v else if w = 1 then setN A 1 3 v else fill 3 (setN A 1 2 v)
def byL (w : Nat) : Nat := if w = 2 then 1 else 0
def byH (w : Nat) : Nat := if w = 0 then 1 else if w = 1 then 4 else 3
theorem by_good {w v : Nat} (hp : PG k A) (hw : w ≤ 2) (h1 : byL w ≤ v) (h2 : v ≤ byH w) : Good (byS A w v) ∧ sN (byS A w v) 0 9 = sN A 0 9 ∧ sN (byS A w v) 0 10 ≤ sN A 0 10 + 3 ∧ (∀ i, i = 4 - w → SetOk (setN A 1 i v) ∧ DynOk (setN A 1 i v) ∧ fill 3 (setN A 1 i v) = byS A w v) := by
  have w3 : w = 0 ∨ w = 1 ∨ w = 2 := by omega
  have hs := hp.1.1
  rcases w3 with rfl | rfl | rfl
  · have s1 : SetOk (setN A 1 4 v) := hs.set1 (by omega) (by omega) (fun _ => h2) (by omega)
    have hR : Rest (setN A 1 4 v) := hp.1.2.2.set (by omega) (by omega)
    have hd : DynOk (setN A 1 4 v) := hp.1.2.1.set (by omega)
    refine ⟨⟨s1, hd, hR⟩, ?_, ?_, fun i hi => ?_⟩
    · show sN (setN A 1 4 v) 0 9 = _
      rw [setN_ne (by omega)]
    · show sN (setN A 1 4 v) 0 10 ≤ _
      rw [setN_ne (by omega)]; omega
    · subst hi
      exact ⟨s1, hd, fill_full hR.2 3⟩
  · have s1 : SetOk (setN A 1 3 v) := hs.set1 (by omega) (fun _ => h2) (by omega) (by omega)
    have hR : Rest (setN A 1 3 v) := hp.1.2.2.set (by omega) (by omega)
    have hd : DynOk (setN A 1 3 v) := hp.1.2.1.set (by omega)
    refine ⟨⟨s1, hd, hR⟩, ?_, ?_, fun i hi => ?_⟩
    · show sN (setN A 1 3 v) 0 9 = _
      rw [setN_ne (by omega)]
    · show sN (setN A 1 3 v) 0 10 ≤ _
      rw [setN_ne (by omega)]; omega
    · subst hi
      exact ⟨s1, hd, fill_full hR.2 3⟩
  · have s1 : SetOk (setN A 1 2 v) := hs.set1 (fun _ => ⟨h1, h2⟩) (by omega) (by omega) (by omega)
    have hd : DynOk (setN A 1 2 v) := hp.1.2.1.set (by omega)
    have hb := (PG_bench hp s1).1
    have fp := (ps_fill 3 s1 hd).1
    have f3 := (fill_ok 3 s1 hd).2.2
    refine ⟨hb.1, ?_, ?_, fun i hi => ?_⟩
    · show sN (fill 3 (setN A 1 2 v)) 0 9 = _
      rw [fp.1, setN_ne (by omega)]
    · show sN (fill 3 (setN A 1 2 v)) 0 10 ≤ _
      rw [setN_ne (A := A) (by omega)] at f3
      exact f3
    · subst hi
      exact ⟨s1, hd, rfl⟩
def byV (A : St) (m : Nat) (x : Int32) (w v : Nat) : Int32 := lateV (drawD fxx m (x, byS A w v)).2
theorem r_byV {m w v : Nat} {x : Int32} {Q : Int32 → MI → Prop} (hk : k ≤ 512) (h : VR I A U t n) (hp : PG k A) (hd : dayOk A (nI m) 12) (hm : m ≤ 12) (h9 : sN A 0 9 + m ≤ 9999) (hw : w ≤ 2) (h1 : byL w ≤ v) (h2 : v ≤ byH w) (hQ : ∀ I', VR I' A U t n → LC I I' → Q (byV A m x w v) I') : wp_X10_by I (nI m) x (nI w) (nI v) Q := by
  have hbd := hp.2.2.2.2
  obtain ⟨Y, hY⟩ := h.1
  obtain ⟨g1, g2, g3, g4⟩ := by_good hp hw h1 h2
  obtain ⟨s1, d1, e1⟩ := g4 (4 - w) rfl
  have hh : byH w ≤ 4 := by unfold byH; split <;> (try split) <;> omega
  have hrd : rd 1 (4 - w) = true := by unfold rd; exact decide_eq_true (by omega)
  have key : ∀ I1, (∀ s, s < 2212 → I1 338 s = I 337 s) → (∀ a, a ≠ 338 → I1 a = I a) → jn_X10_by_83 I1 (nI m) x (nI v) (nI (4 - w)) Q := by
    intro I1 c1 f1
    unfold jn_X10_by_83
    refine ⟨vp_in_nI (by omega) (by omega), fun I2 e2 => ?_⟩
    rw [ix_nI (by omega)] at e2
    obtain ⟨Z, hZ⟩ := vr_aside h c1 f1
    have hZ2 := hZ.putN (j := 1) (i := 4 - w) hrd e2
    refine r_loads ⟨Z, hZ2⟩ s1 d1 (fun I3 r3 f3 => ?_)
    rw [e1] at r3
    refine r_runs (f := fxx) (fun _ => rfl) r3 g1 (by omega) (by omega) (by omega) (fun I4 r4 g4 => ?_)
    obtain ⟨W, hW⟩ := r4
    refine r_late hW (r_bringBack (fun I5 c5 f5 => ?_))
    obtain ⟨q1, q2⟩ := vr_back h c1 f1 (((RF.u e2).g.tr f3.g).tr g4) c5 f5
    exact hQ I5 q1 q2
  unfold wp_X10_by
  refine r_areDays hY (fun _ => i0 o1 (inY (lo := 0) (hi := 2) (by omega) hw (by omega) (i0 o1 ?_))) (fun z => absurd hd z)
  have w3 : w = 0 ∨ w = 1 ∨ w = 2 := by omega
  rcases w3 with rfl | rfl | rfl
  · refine j0 (by decide) ?_
    unfold jn_X10_by_31 jn_X10_by_49
    exact j1 rfl (inY (lo := 0) (hi := 1) (by omega) h2 (by omega) (j0 o1 (r_putAside (fun I1 c1 f1 => j1 rfl (key I1 c1 f1)))))
  · refine j0 (by decide) ?_
    unfold jn_X10_by_31 jn_X10_by_49
    exact j0 (by decide) (j1 rfl (inY (lo := 0) (hi := 4) (by omega) h2 (by omega) (j0 o1 (r_putAside (fun I1 c1 f1 => j0 (by decide) (j1 rfl (key I1 c1 f1)))))))
  · refine j1 rfl ?_
    unfold jn_X10_by_31 jn_X10_by_49
    exact j0 (by decide) (j0 (by decide) (inY (lo := 1) (hi := 3) h1 h2 (by omega) (j0 o1 (r_putAside (fun I1 c1 f1 => j0 (by decide) (j0 (by decide) (key I1 c1 f1)))))))
end WERE
