/-! supplies, and what is set of a part -/
section PLANU
variable {k : Nat} {I I' I1 : MI} {L : ML} {A B C : St} {U : List St} {t : Nat → Nat} {n : Nat} {Y : List (Nat × Nat × Nat × Nat)} {a b c d e : Int32}
abbrev supB (A : St) (q : Nat) : St := setN (setN A 5 q (sN A 5 q + 1)) 13 q (sN A 13 q + 1)
theorem sup_PG {q : Nat} (hp : PG k A) (hq : q < sN A 1 0) (h9 : sN A 5 q < 9) : SetOk (supB A q) ∧ DynOk (supB A q) ∧ PG (k + 1) (answ (sC (supB A q)).length (supB A q) q) ∧ SP A (answ (sC (supB A q)).length (supB A q) q) ∧ sN (answ (sC (supB A q)).length (supB A q) q) 5 q = sN A 5 q + 1 ∧ (sC (supB A q)).length ≤ 183 := by
  have h3 := hp.1.1.1.1
  have hq4 : q < 4 := by omega
  have e : ∀ r, r ≠ 5 → r ≠ 13 → sN (supB A q) r = sN A r := fun r h h2 => by rw [setN_ne h2, setN_ne h]
  have hs : SetOk (setN A 5 q (sN A 5 q + 1)) := hp.1.1.setp hq (by omega)
  have hs2 : SetOk (supB A q) := hs.same (fun j a b => setN_ne (by omega))
  have hd : DynOk (setN A 5 q (sN A 5 q + 1)) := hp.1.2.1.set (by omega)
  have t13 := TP_13 (A := setN A 5 q (sN A 5 q + 1)) (p := q) (v := sN A 13 q + 1) hq4
  rw [TP_lo (A := A) (j := 5) (i := q) (v := sN A 5 q + 1) (by omega) (by omega), setN_ne (A := A) (j := 5) (i := q) (v := sN A 5 q + 1) (k := 13) (by omega)] at t13
  have hcap := cap5 (A := A) (q := q) (v := sN A 5 q + 1) hq4
  have htp := hp.2.2.2.1
  have hs9 : St9 (supB A q) := fun r hr => by rw [e 9 (by omega) (by omega)]; exact hp.2.1 r hr
  have hcp : cap (supB A q) = cap (setN A 5 q (sN A 5 q + 1)) := by
    unfold cap
    rw [setN_ne (A := setN A 5 q (sN A 5 q + 1)) (by omega), setN_ne (A := setN A 5 q (sN A 5 q + 1)) (by omega), setN_ne (A := setN A 5 q (sN A 5 q + 1)) (by omega)]
  have hc180 := cap_le hs2 hs9
  have hd2 : DynOk (supB A q) := hd.set13 (by rw [setN_ne (by omega)]; exact hq) hq4 (by rw [setN_ne (by omega)]; omega) (by omega)
  have hcl : (sC (supB A q)).length ≤ 183 := hp.1.2.1.cl
  obtain ⟨w1, w2, w3⟩ := answ_ok (sC (supB A q)).length hs2 hd2 hq4
  obtain ⟨p1, p2, p3⟩ := ps_answ (sC (supB A q)).length hs2 hd2 hq4
  have hl : PL (supB A q) (answ (sC (supB A q)).length (supB A q) q) := p1.2.1
  have hR : Rest (supB A q) := (hp.1.2.2.set (by omega) (by omega)).set (by omega) (by omega)
  refine ⟨hs2, hd2, ⟨⟨w1, w2, ?_, ?_⟩, fun r hr => ?_, ?_, ?_, ?_⟩, SP.tr (SP.tr (SP.set (by omega)) (SP.set (by omega))) hl.sp, ?_, hcl⟩
  · rw [p1.1]; exact p1.yd hR.1 (Nat.le_refl _)
  · have := hR.2
    unfold fullQ at this ⊢
    rw [p2, p3, hl 1 (by omega) (by omega)]
    exact this
  · rw [hl 9 (by omega) (by omega)]; exact hs9 r hr
  · rw [p1.1, e 0 (by omega) (by omega)]; exact hp.2.2.1
  · rw [cap_PL hl]
    have t14 : TP (supB A q) = TP A + 1 := by
      show TP (setN (setN A 5 q (sN A 5 q + 1)) 13 q (sN A 13 q + 1)) = TP A + 1
      omega
    have := TP_answ (sC (supB A q)).length (supB A q) q hq4
    rw [hcp]
    omega
  · rw [e 0 (by omega) (by omega)] at w3
    have := hp.2.2.2.2
    omega
  · rw [hl 5 (by omega) (by omega), setN_ne (by omega), setN_at, if_pos ⟨rfl, rfl⟩]
theorem m_supply {Q : Int32 → MI → ML → Prop} (hk : k ≤ 512) (h : Iv k I L) (hQ : ∀ x I' L', (∀ Q2 : Int32 → MI → Prop, (∀ I'', Iv (k + 1) I'' L' → Q2 x I'') → wp_X10_supply I' a Q2) → Q x I' L') : wp_X9_supply I L a Q := by
  have h0 := h.up
  obtain ⟨A, U, t, n, hc, hr, hp, hu⟩ := h
  have hs := hp.1.1
  have hbd := hp.2.2.2.2
  have h3 := hs.1.1
  obtain ⟨Y, hY⟩ := hr.1
  unfold wp_X9_supply
  by_cases hv : isIx a (sN A 1 0)
  · obtain ⟨p, hp', rfl⟩ := hv
    have hp3 : p < 3 := by omega
    have v4 : vp_in (nI p) 4 := vp_in_nI (by omega) (by omega)
    have hrd : rd 5 p = true := by unfold rd; exact decide_eq_true (by omega)
    have hrd13 : rd 13 p = true := by unfold rd; exact decide_eq_true (by omega)
    have pl : (59 : Int32) + nI p = nI (59 + p) := nI_add 59 _
    have pl2 : (71 : Int32) + nI p = nI (71 + p) := nI_add 71 _
    have ixp : ix ((59 : Int32) + nI p) = ri 5 p := by rw [pl, ix_nI (by omega)]; rfl
    have ixp2 : ix ((71 : Int32) + nI p) = ri 13 p := by rw [pl2, ix_nI (by omega)]; rfl
    have vp : vp_in ((59 : Int32) + nI p) 2212 := by rw [pl]; exact vp_in_nI (by omega) (by omega)
    have vp2 : vp_in ((71 : Int32) + nI p) 2212 := by rw [pl2]; exact vp_in_nI (by omega) (by omega)
    have h9 := (hs.2.1 p (by omega)).2.2.2.1
    refine pY hc.1 hs hp' (i0 o1 ⟨v4, ?_⟩)
    rw [ix_nI (by omega), show I 7 p = nI (sN A 5 p) from hc.1.n (j := 5) (ndp (by omega) (by omega) (by omega))]
    by_cases h8 : sN A 5 p < 9
    · obtain ⟨hs', hd', hP, hS, h5, hcl⟩ := sup_PG hp hp' h8
      refine i1 (nI_lt (b := 9) h8 (by omega)) (vc_rem hc (fun I1 L1 v1 f1 => ⟨v4, v4, fun I2 e2 => ⟨v4, v4, fun I3 e3 => ?_⟩⟩))
      rw [show I1 7 p = nI (sN A 5 p) from v1.1.n (j := 5) (ndp (by omega) (by omega) (by omega)), nI_1] at e2
      have c2 : CR 2 I2 L1 (setN A 5 p (sN A 5 p + 1)) := v1.1.putN (ndp (by omega) (by omega) (by omega)) e2
      have f2 : Fr 2 I1 L1 I2 L1 := Fr.uI (j := 5) e2 (by omega)
      rw [show I2 15 p = nI (sN (setN A 5 p (sN A 5 p + 1)) 13 p) from c2.n (nd13 (by omega)), setN_ne (A := A) (by omega), nI_1] at e3
      have c3 : CR 2 I3 L1 (supB A p) := c2.putN (nd13 (by omega)) e3
      have f3 : Fr 2 I2 L1 I3 L1 := Fr.uI (j := 13) e3 (by omega)
      have h10 : sN (supB A p) 0 10 = sN A 0 10 := by rw [setN_ne (by omega), setN_ne (by omega)]
      refine c_answerCalls c3 hs' hd' (by rw [h10]; omega) (by omega) (fun I4 L4 c4 f4 => ⟨v4, ?_⟩)
      rw [show I4 7 p = nI (sN (answ (sC (supB A p)).length (supB A p) p) 5 p) from c4.n (j := 5) (ndp (by omega) (by omega) (by omega)), h5]
      refine hQ _ _ _ (fun Q2 h2 => ?_)
      have hV := v1.op c4 ((f2.tr f3).tr f4) hS
      have hr' := hr.fr (f1.tr ((f2.tr f3).tr f4).hc)
      obtain ⟨Y', hY'⟩ := hr'.1
      unfold wp_X10_supply
      refine qY hY' hs hp' (i0 o1 ⟨vp, ?_⟩)
      rw [ixp, hY'.n hrd]
      refine j0 (fun z => by have := (nI_eq (b := 9) (by omega) (by omega)).mp z; omega) (vr_rem hr' (fun I5 v5 l5 => ⟨vp, vp, fun I6 e6 => ⟨vp2, vp2, fun I7 e7 => ?_⟩⟩))
      obtain ⟨Z, hZ⟩ := v5.1
      rw [hZ.n hrd, nI_1] at e6
      have hZ6 := hZ.putN hrd e6
      rw [ixp2, hZ6.n hrd13, setN_ne (A := A) (by omega), nI_1] at e7
      have hZ7 := hZ6.putN hrd13 e7
      refine r_answers ⟨Z, hZ7⟩ hs' hd' hp3 (fun I8 r8 f8 => ⟨vp, ?_⟩)
      have f58 : RF I5 I8 := ((RF.u e6).tr (RF.u e7)).tr f8
      have h58 : I8 337 (ri 5 p) = nI (sN A 5 p + 1) := by
        obtain ⟨W, hW⟩ := r8
        rw [hW.n hrd, h5]
      rw [h58]
      exact h2 _ (Iv.mk' hV (v5.op r8 f58.g) (l5.tr f58.lc) hP (PGs_rem hu hp))
    · have e9 : sN A 5 p = 9 := by omega
      refine i0 (nI_nlt (b := 9) (by omega) (by omega)) (hQ _ _ _ (fun Q2 h2 => ?_))
      unfold wp_X10_supply
      refine qY hY hs hp' (i0 o1 ⟨vp, ?_⟩)
      rw [ixp, hY.n hrd, e9]
      exact j1 rfl (h2 _ h0)
  · refine pN hc.1 hs hv (i1 rfl (hQ _ _ _ (fun Q2 h2 => ?_)))
    unfold wp_X10_supply
    exact qN hY hs hv (i1 rfl (h2 _ h0))
def loW (w : Nat) : Nat := if w = 1 then 0 else 1
def hiW (w : Nat) : Nat := if w = 0 then 30 else 9
theorem w_first : (wTab.getD 1 []).getD (ix 3) 0 = 3 := by decide +kernel
theorem w_lo : ∀ w, w < 3 → (wTab.getD 2 []).getD (ix (nI (3 + w))) 0 = nI (loW w) := by decide +kernel
theorem w_hi : ∀ w, w < 3 → (wTab.getD 3 []).getD (ix (nI (3 + w))) 0 = nI (hiW w) := by decide +kernel
theorem c_fitsP {w : Nat} {v : Int32} {Q : Int32 → Prop} (hw : w < 3) (h1 : ∀ j, loW w ≤ j → j ≤ hiW w → v = nI j → Q 1) (h0 : (∀ j, loW w ≤ j → j ≤ hiW w → ¬ v = nI j) → Q 0) : wp_X7_fitsPart I (nI w) v Q := by
  have hl : loW w < 2 ^ 31 := by unfold loW; split <;> omega
  have hh : hiW w < 2 ^ 31 := by unfold hiW; split <;> omega
  have e3 : (3 : Int32) + nI w = nI (3 + w) := nI_add 3 w
  have vp : vp_in (nI (3 + w)) 14 := vp_in_nI (by omega) (by omega)
  unfold wp_X7_fitsPart
  rw [w_first, e3, w_lo w hw, w_hi w hw]
  refine ⟨vp_in_nI (n := 3) (by omega) (by omega), i0 (nI_pos (by omega)) (i0 (nI_ge (a := 3 + w) (b := 14) (by omega) (by omega)) ⟨vp, ?_⟩)⟩
  by_cases hv : ∃ j, loW w ≤ j ∧ j ≤ hiW w ∧ v = nI j
  · obtain ⟨j, a, b, rfl⟩ := hv
    exact i0 (nI_nlt a (by omega)) ⟨vp, i0 (nI_nlt b hh) (h1 j a b rfl)⟩
  · have hn := h0 (fun j a b c => hv ⟨j, a, b, c⟩)
    exact ⟨fun _ => hn, fun z => ⟨vp, fun _ => hn, fun z2 => absurd (rngG hl hh z z2) hv⟩⟩
theorem r_setJ {w p : Nat} {v : Int32} {Q : Int32 → MI → Prop} (hw : w < 3) (h1 : ∀ j, loW w ≤ j → j ≤ hiW w → v = nI j → ∃ j', j' = j ∧ (vp_in (nI (20 + 3 * w + p)) 2212 ∧ ((¬ (I 337 (ix (nI (20 + 3 * w + p)))) = v → (wp_X10_puts I (nI (20 + 3 * w + p)) v (fun x13 I14 => (Q x13 I14)))) ∧ ((I 337 (ix (nI (20 + 3 * w + p)))) = v → Q (-1) I)))) (h0 : (∀ j, loW w ≤ j → j ≤ hiW w → ¬ v = nI j) → Q (-1) I) :
    ((¬ nI w = 0 → ((¬ nI w = 1 → (jn_X10_set_40 I (nI p) (nI w) v 26 Q)) ∧ (nI w = 1 → (jn_X10_set_40 I (nI p) (nI w) v 23 Q)))) ∧ (nI w = 0 → (jn_X10_set_40 I (nI p) (nI w) v 20 Q))) := by
  have key : jn_X10_set_66 I v (nI (20 + 3 * w + p)) (nI (hiW w)) (nI (loW w)) v Q := by
    have hl : loW w < 2 ^ 31 := by unfold loW; split <;> omega
    have hh : hiW w < 2 ^ 31 := by unfold hiW; split <;> omega
    unfold jn_X10_set_66
    by_cases hv : ∃ j, loW w ≤ j ∧ j ≤ hiW w ∧ v = nI j
    · obtain ⟨j, a, b, rfl⟩ := hv
      obtain ⟨-, -, r⟩ := h1 j a b rfl
      exact inY a b hh (i0 o1 r)
    · have hn : ∀ j, loW w ≤ j → j ≤ hiW w → ¬ v = nI j := fun j a b c => hv ⟨j, a, b, c⟩
      exact inN hl hh hn (i1 rfl (h0 hn))
  have w3 : w = 0 ∨ w = 1 ∨ w = 2 := by omega
  rcases w3 with rfl | rfl | rfl
  · refine j1 rfl ?_
    unfold jn_X10_set_40 jn_X10_set_55
    rw [show (20 : Int32) + nI p = nI (20 + 3 * 0 + p) from nI_add 20 p]
    exact j0 (by decide) (j1 rfl key)
  · refine j0 (by decide) (j1 rfl ?_)
    unfold jn_X10_set_40 jn_X10_set_55
    rw [show (23 : Int32) + nI p = nI (20 + 3 * 1 + p) from nI_add 23 p]
    exact j1 rfl (j0 (by decide) key)
  · refine j0 (by decide) (j0 (by decide) ?_)
    unfold jn_X10_set_40 jn_X10_set_55
    rw [show (26 : Int32) + nI p = nI (20 + 3 * 2 + p) from nI_add 26 p]
    exact j0 (by decide) (j0 (by decide) key)
theorem c_ofP {w p : Nat} {Q : Int32 → Prop} (h : CR 2 I L A) (hw : w < 3) (hp : p < 4) (hQ : Q (nI (sN A (2 + w) p))) : wp_X1_ofPart 3 I (nI p) (nI w) Q := by
  have v4 : vp_in (nI p) 4 := vp_in_nI (by omega) (by omega)
  unfold wp_X1_ofPart
  rw [ix_nI (by omega)]
  have w3 : w = 0 ∨ w = 1 ∨ w = 2 := by omega
  rcases w3 with rfl | rfl | rfl
  · exact j1 rfl ⟨v4, by rw [show I (3 + 1) p = nI (sN A 2 p) from h.n (j := 2) (ndp (by omega) (by omega) hp)]; exact hQ⟩
  · exact j0 (by decide) (j1 rfl ⟨v4, by rw [show I (3 + 2) p = nI (sN A 3 p) from h.n (j := 3) (ndp (by omega) (by omega) hp)]; exact hQ⟩)
  · exact j0 (by decide) (j0 (by decide) ⟨v4, by rw [show I (3 + 3) p = nI (sN A 4 p) from h.n (j := 4) (ndp (by omega) (by omega) hp)]; exact hQ⟩)
theorem c_chP {w p : Nat} {v : Int32} {Q : MI → Prop} (hw : w < 3) (hp : p < 4) (hQ : ∀ I', I' = u2 I (2 + (2 + w)) p v → Q I') : wp_X1_changePart 3 I (nI p) (nI w) v Q := by
  have v4 : vp_in (nI p) 4 := vp_in_nI (by omega) (by omega)
  unfold wp_X1_changePart
  rw [ix_nI (by omega)]
  have w3 : w = 0 ∨ w = 1 ∨ w = 2 := by omega
  rcases w3 with rfl | rfl | rfl
  · exact j1 rfl ⟨v4, fun I' e => hQ I' e⟩
  · exact j0 (by decide) (j1 rfl ⟨v4, fun I' e => hQ I' e⟩)
  · exact j0 (by decide) (j0 (by decide) ⟨v4, fun I' e => hQ I' e⟩)
theorem m_set {Q : Int32 → MI → ML → Prop} (h : Iv k I L) (hQ : ∀ x I' L', (∀ Q2 : Int32 → MI → Prop, (∀ I'', Iv (k + 1) I'' L' → Q2 x I'') → wp_X10_set I' a b c Q2) → Q x I' L') : wp_X9_set I L a b c Q := by
  have h0 := h.up
  obtain ⟨A, U, t, n, hc, hr, hp, hu⟩ := h
  have hs := hp.1.1
  have h3 := hs.1.1
  obtain ⟨Y, hY⟩ := hr.1
  unfold wp_X9_set
  by_cases hv : isIx a (sN A 1 0)
  · obtain ⟨p, hp', rfl⟩ := hv
    refine pY hc.1 hs hp' (i0 o1 ?_)
    by_cases hw : ∃ w, 0 ≤ w ∧ w ≤ 2 ∧ b = nI w
    · obtain ⟨w, -, hw, rfl⟩ := hw
      have hw3 : w < 3 := by omega
      have hrd : rd (2 + w) p = true := by unfold rd; exact decide_eq_true (by omega)
      have pe : ri (2 + w) p = 20 + 3 * w + p := by
        have w3 : w = 0 ∨ w = 1 ∨ w = 2 := by omega
        rcases w3 with rfl | rfl | rfl <;> rfl
      have vp : vp_in (nI (20 + 3 * w + p)) 2212 := vp_in_nI (by omega) (by omega)
      have r3 : ∀ {J : MI} {Z : List (Nat × Nat × Nat × Nat)}, RR J A Z → J 337 (ix (nI (20 + 3 * w + p))) = nI (sN A (2 + w) p) := fun hJ => by rw [ix_nI (by omega), ← pe]; exact hJ.n hrd
      have old : loW w ≤ sN A (2 + w) p ∧ sN A (2 + w) p ≤ hiW w := by
        have q1 := hs.2.1 p (by omega)
        have q2 := hs.2.2.1 p hp'
        have w3 : w = 0 ∨ w = 1 ∨ w = 2 := by omega
        rcases w3 with rfl | rfl | rfl
        · exact ⟨q2.1, q1.1⟩
        · exact ⟨Nat.zero_le _, q1.2.1⟩
        · exact ⟨q2.2, q1.2.2.1⟩
      refine i0 (nI_pos (by omega)) (i0 (nI_nlt (a := 2) (b := w) hw (by omega)) (c_fitsP hw3 (fun j a1 a2 ec => j0 o1 ?_) (fun hn => j1 rfl (hQ _ _ _ (fun Q2 h2 => ?_)))))
      · subst ec
        refine c_ofP hc.1 hw3 (by omega) ⟨fun hne => ?_, fun he => hQ _ _ _ (fun Q2 h2 => ?_)⟩
        · refine vc_rem hc (fun I1 L1 v1 f1 => c_forget (fun I2 w1 w2 w3 f2 => c_chP hw3 (by omega) (fun I3 e3 => hQ _ _ _ (fun Q2 h2 => ?_))))
          have hV := v1.putF w1 w2 w3 f2 (j := 2 + w) (ndp (by omega) (by omega) (by omega)) (by omega) e3
          have hh : HC I1 I3 := fun j hj => by rw [e3, u2_ne (by omega)]; exact f2 j (by omega)
          have hr' := hr.fr (f1.tr hh)
          obtain ⟨Y', hY'⟩ := hr'.1
          have hs' : SetOk (setN A (2 + w) p j) := hs.setp hp' (by
            unfold loW at a1
            unfold hiW at a2
            split at a1 <;> split at a2 <;> omega)
          unfold wp_X10_set
          refine qY hY' hs hp' (i0 o1 (inY (lo := 0) (hi := 2) (by omega) hw (by omega) (j0 o1 (r_setJ hw3 (fun j' b1 b2 ej => ⟨j', rfl, vp, ?_⟩) (fun hn => absurd rfl (hn j a1 a2))))))
          rw [r3 hY']
          exact j0 hne (vr_puts hr' hrd (by rw [pe]) rfl (fun I4 v4 l4 => h2 _ (Iv.mk' hV v4 l4 (hp.set hs' (by omega)) (PGs_rem hu hp))))
        · unfold wp_X10_set
          refine qY hY hs hp' (i0 o1 (inY (lo := 0) (hi := 2) (by omega) hw (by omega) (j0 o1 (r_setJ hw3 (fun j' b1 b2 ej => ⟨j', rfl, vp, ?_⟩) (fun hn => absurd rfl (hn j a1 a2))))))
          rw [r3 hY]
          exact j1 he (h2 _ h0)
      · unfold wp_X10_set
        exact qY hY hs hp' (i0 o1 (inY (lo := 0) (hi := 2) (by omega) hw (by omega) (j0 o1 (r_setJ hw3 (fun j' b1 b2 ej => absurd ej (hn j' b1 b2)) (fun _ => h2 _ h0)))))
    · have hn : ∀ j, 0 ≤ j → j ≤ 2 → ¬ b = nI j := fun j x y z => hw ⟨j, x, y, z⟩
      have no : Q (-1) I L := hQ _ _ _ (fun Q2 h2 => by
        unfold wp_X10_set
        exact qY hY hs hp' (i0 o1 (inN (lo := 0) (hi := 2) (by omega) (by omega) hn (j1 rfl (h2 _ h0)))))
      exact ⟨fun _ => no, fun z => ⟨fun _ => no, fun z2 => absurd (rngG (lo := 0) (hi := 2) (by omega) (by omega) z z2) hw⟩⟩
  · refine pN hc.1 hs hv (i1 rfl (hQ _ _ _ (fun Q2 h2 => ?_)))
    unfold wp_X10_set
    exact qN hY hs hv (i1 rfl (h2 _ h0))
end PLANU
