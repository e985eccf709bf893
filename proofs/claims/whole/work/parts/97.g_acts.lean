/-! buys, sales, supplies, prices -/
section PLANT
variable {k : Nat} {I I' I1 : MI} {L : ML} {A B C : St} {U : List St} {t : Nat → Nat} {n : Nat} {Y : List (Nat × Nat × Nat × Nat)} {a b c d e : Int32}
theorem DynX.set10 {T s T' q v : Nat} (h : DynX T s A) (hv : vc A q) (ht : TP (setN A 10 q v) ≤ T') : DynX T' s (setN A 10 q v) := by
  obtain ⟨a1, a2, a3, a4, a5, a6, a7, a8, a9⟩ := h
  have e : ∀ r, r ≠ 10 → sN (setN A 10 q v) r = sN A r := fun r h => setN_ne h
  have hvc : ∀ r, vc (setN A 10 q v) r ↔ vc A r := vc_eq (e 1 (by omega))
  unfold DynX
  simp only [hvc]
  rw [e 0 (by omega), e 1 (by omega), e 7 (by omega), e 11 (by omega), e 13 (by omega)]
  refine ⟨a1, fun r hr hn => ?_, a3, a4, a5, a6, a7, ht, a9⟩
  have hne : ¬ (10 = 10 ∧ r = q) := fun z => hn (by rw [z.2]; exact hv)
  rw [setN_at, if_neg hne]
  exact a2 r hr hn
theorem DynX.set13 {T s T' q v : Nat} (h : DynX T s A) (hq : q < sN A 1 0) (hq4 : q < 4) (hv : sN A 13 q ≤ v) (ht : TP (setN A 13 q v) ≤ T') : DynX T' s (setN A 13 q v) := by
  obtain ⟨a1, a2, a3, a4, a5, a6, a7, a8, a9, a10⟩ := h
  have e : ∀ r, r ≠ 13 → sN (setN A 13 q v) r = sN A r := fun r h => setN_ne h
  have hvc : ∀ r, vc (setN A 13 q v) r ↔ vc A r := vc_eq (e 1 (by omega))
  have ts := tot_set (A := A) (j := 13) (i := q) (v := v) (n := 4) hq4
  unfold DynX
  simp only [hvc]
  rw [e 0 (by omega), e 1 (by omega), e 7 (by omega), e 11 (by omega), e 10 (by omega)]
  refine ⟨a1, a2, fun r hr hn => ?_, a4, a5, a6, a7, ht, ?_, a10⟩
  · rw [setN_at, if_neg (by omega)]
    exact a3 r hr hn
  · show (sC A).length ≤ (sY A).countP k12 + (sQ A).length + tot (sN (setN A 13 q v) 13) 4 + s
    omega
theorem cap9 {q v : Nat} (hq : q < 16) : cap (setN A 9 q v) + sN A 9 q = cap A + v := by
  have ts := tot_set (A := A) (j := 9) (i := q) (v := v) (n := 16) hq
  unfold cap
  rw [setN_ne (A := A) (j := 9) (i := q) (v := v) (k := 7) (by omega), setN_ne (A := A) (j := 9) (i := q) (v := v) (k := 5) (by omega)]
  omega
theorem cap5 {q v : Nat} (hq : q < 4) : cap (setN A 5 q v) + sN A 5 q = cap A + v := by
  have ts := tot_set (A := A) (j := 5) (i := q) (v := v) (n := 4) hq
  unfold cap
  rw [setN_ne (A := A) (j := 5) (i := q) (v := v) (k := 7) (by omega), setN_ne (A := A) (j := 5) (i := q) (v := v) (k := 9) (by omega)]
  omega
theorem recv_PG {q v : Nat} (hp : PG k A) (hq : q < 16) (hv : vc A q) (h9 : sN A 9 q < 9) (ev : v = sN A 9 q + 1) : SetOk (setN A 9 q v) ∧ DynOk (setN A 9 q v) ∧ PG (k + 1) (recv (setN A 9 q v) q) ∧ SP A (recv (setN A 9 q v) q) ∧ vc (setN A 9 q v) q ∧ sN (recv (setN A 9 q v) q) 9 q = v := by
  have e : ∀ r, r ≠ 9 → sN (setN A 9 q v) r = sN A r := fun r h => setN_ne h
  have hs : SetOk (setN A 9 q v) := hp.1.1.setc hv (by omega)
  have hd : DynOk (setN A 9 q v) := hp.1.2.1.set (by omega)
  have hv' : vc (setN A 9 q v) q := (vc_eq (e 1 (by omega)) q).mpr hv
  obtain ⟨r1, r2, r3, r4⟩ := recv_ok hs hd hv'
  obtain ⟨p1, p2, p3⟩ := ps_recv (A := setN A 9 q v) (c := q)
  have hl : PL (setN A 9 q v) (recv (setN A 9 q v) q) := p1.2.1
  have hs9 : St9 (setN A 9 q v) := fun r hr => by
    rw [setN_at]
    have := hp.2.1 r hr
    split <;> omega
  have hs9' : St9 (recv (setN A 9 q v) q) := fun r hr => by rw [hl 9 (by omega) (by omega)]; exact hs9 r hr
  have hcap := cap9 (A := A) (q := q) (v := v) hq
  have htp : TP (recv (setN A 9 q v) q) ≤ cap (recv (setN A 9 q v) q) := by
    rw [cap_PL hl]
    have := TP_recv (A := setN A 9 q v) hq
    rw [TP_lo (by omega) (by omega)] at this
    have := hp.2.2.2.1
    omega
  have hc180 := cap_le r1 hs9'
  have hy : YD (setN A 9 q v) (sN (setN A 9 q v) 0 9 + 1) := by
    have := hp.1.2.2.1
    unfold YD at this ⊢
    rw [e 0 (by omega)]
    exact this
  have hf : fullQ (recv (setN A 9 q v) q) := by
    have := hp.1.2.2.2
    unfold fullQ at this ⊢
    rw [p2, p3, hl 1 (by omega) (by omega), e 0 (by omega), e 1 (by omega)]
    exact this
  refine ⟨hs, hd, ⟨⟨r1, r2.tp (by omega), ?_, hf⟩, hs9', ?_, htp, ?_⟩, SP.tr (SP.set (by omega)) hl.sp, hv', ?_⟩
  · rw [p1.1]; exact p1.yd hy (Nat.le_refl _)
  · rw [r4, e 0 (by omega)]; exact hp.2.2.1
  · rw [r3, e 0 (by omega)]; have := hp.2.2.2.2; omega
  · rw [hl 9 (by omega) (by omega), setN_at, if_pos ⟨rfl, rfl⟩]
theorem m_buy {Q : Int32 → MI → ML → Prop} (hk : k ≤ 512) (h : Iv k I L) (hQ : ∀ x I' L', (∀ Q2 : Int32 → MI → Prop, (∀ I'', Iv (k + 1) I'' L' → Q2 x I'') → wp_X10_buy I' a b Q2) → Q x I' L') : wp_X9_buy I L a b Q := by
  have h0 := h.up
  obtain ⟨A, U, t, n, hc, hr, hp, hu⟩ := h
  have hs := hp.1.1
  have hbd := hp.2.2.2.2
  obtain ⟨Y, hY⟩ := hr.1
  unfold wp_X9_buy
  by_cases hv : IC A a b
  · obtain ⟨⟨b', hb, rfl⟩, ⟨p, hp', rfl⟩⟩ := hv
    obtain ⟨hvc, hb3, hp3⟩ := vc_of hs hb hp'
    have h16 : 4 * b' + p < 16 := by omega
    have hrd : rd 9 (4 * b' + p) = true := rdc (by omega) (by omega) (by omega) (by omega)
    have pl : (50 : Int32) + nI (3 * b' + p) = nI (ri 9 (4 * b' + p)) := by rw [ri9 (by omega)]; exact nI_add 50 _
    have l92 := (ivA 9 (by omega) _ h16 hrd).2.2.1
    have ixp : ix ((50 : Int32) + nI (3 * b' + p)) = ri 9 (4 * b' + p) := by rw [pl, ix_nI (by omega)]
    have vp : vp_in ((50 : Int32) + nI (3 * b' + p)) 2212 := by rw [pl]; exact vp_in_nI (by omega) (by omega)
    have v16 : vp_in (nI (4 * b' + p)) 16 := vp_in_nI (by omega) (by omega)
    have h9 := hp.2.1 _ h16
    refine cY hc.1 hs hb hp' (j0 o1 (s_placeOf ⟨v16, ?_⟩))
    rw [ix_nI (by omega), show I 11 (4 * b' + p) = nI (sN A 9 (4 * b' + p)) from hc.1.n (nd9 h16)]
    by_cases h8 : sN A 9 (4 * b' + p) < 9
    · obtain ⟨hs', hd', hP, hS, hv', h9'⟩ := recv_PG hp h16 hvc h8 rfl
      refine i1 (nI_lt (b := 9) h8 (by omega)) (vc_rem hc (fun I1 L1 v1 f1 => ⟨v16, v16, fun I2 e2 => ?_⟩))
      rw [show I1 11 (4 * b' + p) = nI (sN A 9 (4 * b' + p)) from v1.1.n (nd9 h16), nI_1] at e2
      have hC2 : CR 2 I2 L1 (setN A 9 (4 * b' + p) (sN A 9 (4 * b' + p) + 1)) := v1.1.putN (nd9 h16) e2
      have f2 : Fr 2 I1 L1 I2 L1 := Fr.uI (j := 9) e2 (by omega)
      refine c_receive hC2 hs' hd' (by rw [setN_ne (by omega)]; omega) (Nat.le_refl _) hv' (fun I3 L3 c3 f3 => ⟨v16, ?_⟩)
      rw [show I3 11 (4 * b' + p) = nI (sN (recv (setN A 9 (4 * b' + p) (sN A 9 (4 * b' + p) + 1)) (4 * b' + p)) 9 (4 * b' + p)) from c3.n (nd9 h16), h9']
      refine hQ _ _ _ (fun Q2 h2 => ?_)
      have hV := v1.op c3 (f2.tr f3) hS
      have hr' := hr.fr (f1.tr (f2.tr f3).hc)
      obtain ⟨Y', hY'⟩ := hr'.1
      unfold wp_X10_buy
      refine rY hY' hs hb hp' (i0 o1 (r_cellOf ⟨vp, ?_⟩))
      rw [ixp, hY'.n hrd]
      refine j0 (fun z => by have := (nI_eq (b := 9) (by omega) (by omega)).mp z; omega) (vr_rem hr' (fun I4 v4 l4 => r_cellOf ⟨vp, vp, fun I5 e5 => ?_⟩))
      obtain ⟨Z, hZ⟩ := v4.1
      rw [ixp, hZ.n hrd, nI_1] at e5
      have hZ5 := hZ.putN hrd e5
      refine r_comes' (by omega) ⟨Z, hZ5⟩ hs' hd' hv' (fun I6 r6 f6 => r_cellOf ⟨vp, ?_⟩)
      have f56 : RF I4 I6 := (RF.u e5).tr f6
      have h56 : I6 337 (ix (50 + nI (3 * b' + p))) = nI (sN A 9 (4 * b' + p) + 1) := by
        obtain ⟨W, hW⟩ := r6
        rw [ixp, hW.n hrd, h9']
      rw [h56]
      exact h2 _ (Iv.mk' hV (v4.op r6 f56.g) (l4.tr f56.lc) hP (PGs_rem hu hp))
    · have e9 : sN A 9 (4 * b' + p) = 9 := by omega
      refine i0 (nI_nlt (b := 9) (by omega) (by omega)) (hQ _ _ _ (fun Q2 h2 => ?_))
      unfold wp_X10_buy
      refine rY hY hs hb hp' (i0 o1 (r_cellOf ⟨vp, ?_⟩))
      rw [ixp, hY.n hrd, e9]
      exact j1 rfl (h2 _ h0)
  · refine cN hc.1 hs hv (j1 rfl (hQ _ _ _ (fun Q2 h2 => ?_)))
    unfold wp_X10_buy
    exact rN hY hs hv (i1 rfl (h2 _ h0))
theorem sell_PG {q v w : Nat} (hp : PG k A) (hq : q < 16) (hv : vc A q) (ev : v + 1 = sN A 9 q) (ew : w + 1 = sN A 10 q) : PG (k + 1) (setN (setN A 9 q v) 10 q w) ∧ SP A (setN (setN A 9 q v) 10 q w) := by
  have e : ∀ r, r ≠ 9 → r ≠ 10 → sN (setN (setN A 9 q v) 10 q w) r = sN A r := fun r h h2 => by rw [setN_ne h2, setN_ne h]
  have h9 := hp.2.1 q hq
  have hs : SetOk (setN A 9 q v) := hp.1.1.setc hv (by omega)
  have hs2 : SetOk (setN (setN A 9 q v) 10 q w) := hs.same (fun j a b => setN_ne (by omega))
  have hd : DynOk (setN A 9 q v) := hp.1.2.1.set (by omega)
  have hv' : vc (setN A 9 q v) q := (vc_eq (setN_ne (by omega)) q).mpr hv
  have t10 := TP_10 (A := setN A 9 q v) (p := q) (v := w) hq
  rw [TP_lo (A := A) (j := 9) (i := q) (v := v) (by omega) (by omega), setN_ne (A := A) (j := 9) (i := q) (v := v) (k := 10) (by omega)] at t10
  have hcap := cap9 (A := A) (q := q) (v := v) hq
  have htp := hp.2.2.2.1
  have hs9 : St9 (setN (setN A 9 q v) 10 q w) := fun r hr => by
    rw [setN_ne (by omega), setN_at]
    have := hp.2.1 r hr
    split <;> omega
  have hcp : cap (setN (setN A 9 q v) 10 q w) = cap (setN A 9 q v) := by
    unfold cap
    rw [setN_ne (A := setN A 9 q v) (by omega), setN_ne (A := setN A 9 q v) (by omega), setN_ne (A := setN A 9 q v) (by omega)]
  have hc180 := cap_le hs2 hs9
  refine ⟨⟨⟨hs2, hd.set10 hv' (by omega), (hp.1.2.2.set (by omega) (by omega)).set (by omega) (by omega)⟩, hs9, ?_, by omega, ?_⟩, SP.tr (SP.set (by omega)) (SP.set (by omega))⟩
  · rw [e 0 (by omega) (by omega)]; exact hp.2.2.1
  · rw [e 0 (by omega) (by omega)]; have := hp.2.2.2.2; omega
theorem m_sell {Q : Int32 → MI → ML → Prop} (h : Iv k I L) (hQ : ∀ x I' L', (∀ Q2 : Int32 → MI → Prop, (∀ I'', Iv (k + 1) I'' L' → Q2 x I'') → wp_X10_sell I' a b Q2) → Q x I' L') : wp_X9_sell I L a b Q := by
  have h0 := h.up
  obtain ⟨A, U, t, n, hc, hr, hp, hu⟩ := h
  have hs := hp.1.1
  obtain ⟨Y, hY⟩ := hr.1
  unfold wp_X9_sell
  by_cases hv : IC A a b
  · obtain ⟨⟨b', hb, rfl⟩, ⟨p, hp', rfl⟩⟩ := hv
    obtain ⟨hvc, hb3, hp3⟩ := vc_of hs hb hp'
    have h16 : 4 * b' + p < 16 := by omega
    have hrd : rd 9 (4 * b' + p) = true := rdc (by omega) (by omega) (by omega) (by omega)
    have hrd10 : rd 10 (4 * b' + p) = true := rdc (by omega) (by omega) (by omega) (by omega)
    have pl : (50 : Int32) + nI (3 * b' + p) = nI (ri 9 (4 * b' + p)) := by rw [ri9 (by omega)]; exact nI_add 50 _
    have pl2 : (62 : Int32) + nI (3 * b' + p) = nI (ri 10 (4 * b' + p)) := by rw [ri10 (by omega)]; exact nI_add 62 _
    have l92 := (ivA 9 (by omega) _ h16 hrd).2.2.1
    have l92' := (ivA 10 (by omega) _ h16 hrd10).2.2.1
    have ixp : ix ((50 : Int32) + nI (3 * b' + p)) = ri 9 (4 * b' + p) := by rw [pl, ix_nI (by omega)]
    have ixp2 : ix ((62 : Int32) + nI (3 * b' + p)) = ri 10 (4 * b' + p) := by rw [pl2, ix_nI (by omega)]
    have vp : vp_in ((50 : Int32) + nI (3 * b' + p)) 2212 := by rw [pl]; exact vp_in_nI (by omega) (by omega)
    have vp2 : vp_in ((62 : Int32) + nI (3 * b' + p)) 2212 := by rw [pl2]; exact vp_in_nI (by omega) (by omega)
    have v16 : vp_in (nI (4 * b' + p)) 16 := vp_in_nI (by omega) (by omega)
    have h9 := hp.2.1 _ h16
    have h10 := hand_le hp.1.2.1 h16
    have m1 : ∀ x : Nat, 0 < x → nI x - 1 = nI (x - 1) := fun x hx => pk_sub (b := 1) hx
    refine cY hc.1 hs hb hp' (j0 o1 (s_placeOf ⟨v16, ?_⟩))
    rw [ix_nI (by omega), show I 11 (4 * b' + p) = nI (sN A 9 (4 * b' + p)) from hc.1.n (nd9 h16)]
    by_cases hz : sN A 9 (4 * b' + p) = 0
    · rw [hz]
      refine i1 (by decide) (hQ _ _ _ (fun Q2 h2 => ?_))
      unfold wp_X10_sell
      refine rY hY hs hb hp' (i0 o1 (r_cellOf ⟨vp, ?_⟩))
      rw [ixp, hY.n hrd, hz]
      exact i1 rfl (h2 _ h0)
    · refine i0 (nI_nle (by omega) (by omega)) ⟨v16, ?_⟩
      rw [show I 12 (4 * b' + p) = nI (sN A 10 (4 * b' + p)) from hc.1.n (nd10 h16)]
      by_cases hz2 : sN A 10 (4 * b' + p) = 0
      · rw [hz2]
        refine i0 (by decide) (hQ _ _ _ (fun Q2 h2 => ?_))
        unfold wp_X10_sell
        refine rY hY hs hb hp' (i0 o1 (r_cellOf ⟨vp, ?_⟩))
        rw [ixp, hY.n hrd]
        refine i0 (nI_ne0 (by omega) (by omega)) (r_cellOf ⟨vp2, ?_⟩)
        rw [ixp2, hY.n hrd10, hz2]
        exact j1 rfl (h2 _ h0)
      · obtain ⟨hP, hS⟩ := sell_PG (v := sN A 9 (4 * b' + p) - 1) (w := sN A 10 (4 * b' + p) - 1) hp h16 hvc (by omega) (by omega)
        refine i1 (nI_lt (a := 0) (by omega) (by omega)) (vc_rem hc (fun I1 L1 v1 f1 => ⟨v16, v16, fun I2 e2 => ⟨v16, v16, fun I3 e3 => ⟨v16, ?_⟩⟩⟩))
        rw [show I1 11 (4 * b' + p) = nI (sN A 9 (4 * b' + p)) from v1.1.n (nd9 h16), m1 _ (by omega)] at e2
        have c2 : CR 2 I2 L1 (setN A 9 (4 * b' + p) (sN A 9 (4 * b' + p) - 1)) := v1.1.putN (nd9 h16) e2
        have f2 : Fr 2 I1 L1 I2 L1 := Fr.uI (j := 9) e2 (by omega)
        rw [show I2 12 (4 * b' + p) = nI (sN (setN A 9 (4 * b' + p) (sN A 9 (4 * b' + p) - 1)) 10 (4 * b' + p)) from c2.n (nd10 h16), setN_ne (A := A) (by omega), m1 _ (by omega)] at e3
        have c3 := c2.putN (nd10 h16) e3
        have f3 : Fr 2 I2 L1 I3 L1 := Fr.uI (j := 10) e3 (by omega)
        have h11 : I3 11 (4 * b' + p) = nI (sN A 9 (4 * b' + p) - 1) := by
          rw [e3, u2_ne (by omega), e2, u2_s]
        rw [h11]
        refine hQ _ _ _ (fun Q2 h2 => ?_)
        have hV := v1.op c3 (f2.tr f3) hS
        have hr' := hr.fr (f1.tr (f2.tr f3).hc)
        obtain ⟨Y', hY'⟩ := hr'.1
        unfold wp_X10_sell
        refine rY hY' hs hb hp' (i0 o1 (r_cellOf ⟨vp, ?_⟩))
        rw [ixp, hY'.n hrd]
        refine i0 (nI_ne0 (by omega) (by omega)) (r_cellOf ⟨vp2, ?_⟩)
        rw [ixp2, hY'.n hrd10]
        refine j0 (nI_ne0 (by omega) (by omega)) (vr_rem hr' (fun I4 v4 l4 => r_cellOf ⟨vp, vp, fun I5 e5 => r_cellOf ⟨vp2, vp2, fun I6 e6 => r_cellOf ⟨vp, ?_⟩⟩⟩))
        obtain ⟨Z, hZ⟩ := v4.1
        rw [ixp, hZ.n hrd, m1 _ (by omega)] at e5
        have hZ5 := hZ.putN hrd e5
        rw [ixp2, hZ5.n hrd10, setN_ne (A := A) (by omega), m1 _ (by omega)] at e6
        have hZ6 := hZ5.putN hrd10 e6
        have f56 : RF I4 I6 := (RF.u e5).tr (RF.u e6)
        have h56 : I6 337 (ix (50 + nI (3 * b' + p))) = nI (sN A 9 (4 * b' + p) - 1) := by
          rw [ixp, hZ6.n hrd, setN_ne (by omega), setN_at, if_pos ⟨rfl, rfl⟩]
        rw [h56]
        exact h2 _ (Iv.mk' hV (v4.op ⟨Z, hZ6⟩ f56.g) (l4.tr f56.lc) hP (PGs_rem hu hp))
  · refine cN hc.1 hs hv (j1 rfl (hQ _ _ _ (fun Q2 h2 => ?_)))
    unfold wp_X10_sell
    exact rN hY hs hv (i1 rfl (h2 _ h0))
end PLANT
