/-! by odds: purses -/
section ODDL
variable {k : Nat} {I I' I1 I2 I3 : MI} {L L' : ML} {A B C : St} {U : List St} {t : Nat → Nat} {n : Nat} {Y : List (Nat × Nat × Nat × Nat)} {a b c d e : Int32}
theorem puY {p : Nat} {Q : Int32 → Prop} (hp : p ≤ 99) (hQ : Q 1) : wp_X9_isPurse (nI p) Q := i0 (nI_pos (by omega)) (i0 (nI_nlt (a := 99) (b := p) hp (by omega)) hQ)
theorem puN {Q : Int32 → Prop} (hn : ∀ j, 0 ≤ j → j ≤ 99 → ¬ a = nI j) (hQ : Q 0) : wp_X9_isPurse a Q :=
  ⟨fun _ => hQ, fun z => ⟨fun _ => hQ, fun z2 => by obtain ⟨j, x, y, w⟩ := rngG (lo := 0) (hi := 99) (by omega) (by omega) z z2; exact absurd w (hn j x y)⟩⟩
theorem m_bought {Q : Int32 → MI → ML → Prop} (h : Iv k I L) (hQ : ∀ x I' L', (∀ Q2 : Int32 → MI → Prop, (∀ I'', Iv (k + 1) I'' L' → Q2 x I'') → wp_X10_bought I' a b Q2) → Q x I' L') : wp_X9_bought I L a b Q := by
  have h0 := h.up
  obtain ⟨A, U, t, n, hc, hr, hp, hu⟩ := h
  have hs := hp.1.1
  obtain ⟨Y, hY⟩ := hr.1
  unfold wp_X9_bought
  by_cases hpu : ∃ p, 0 ≤ p ∧ p ≤ 99 ∧ a = nI p
  · obtain ⟨p, -, hp9, rfl⟩ := hpu
    refine puY hp9 (i0 o1 ?_)
    by_cases hw : ∃ w, 0 ≤ w ∧ w ≤ 4 ∧ b = nI w
    · obtain ⟨w, -, hw, rfl⟩ := hw
      refine i0 (nI_pos (by omega)) (i1 (nI_le (a := w) (b := 4) hw (by omega)) (vc_buys hc hs (fun I1 L1 v1 hW hB f1 => c_within hB hs (by omega) ?_)))
      have hr' := hr.fr f1
      obtain ⟨Y', hY'⟩ := hr'.1
      obtain ⟨b1, b2, b3⟩ := bL_b hs
      have hwn := wnF_le p (bL A)
      have fin : ∀ I2, VR I2 A U t n → LC I1 I2 → Iv (k + 1) I2 L1 := fun I2 v2 l2 => Iv.mk' v1 v2 l2 hp.up (PGs_up hu)
      have val : ∀ x, (w = 0 → x = nI (wnF p (bL A))) → (w = 1 → wnF p (bL A) = 0 → x = 0) → (w = 1 → ∀ e, 0 < wnF p (bL A) → (bL A)[wnF p (bL A) - 1]? = some e → x = nI e.2.2) → (2 ≤ w → x = nI (bsF (bL A) (wnF p (bL A)) (w - 2))) → Q x I1 L1 := by
        intro x x0 x1 x1' x2
        refine hQ _ _ _ (fun Q2 h2 => ?_)
        unfold wp_X10_bought
        refine inY (lo := 0) (hi := 99) (by omega) hp9 (by omega) (i0 o1 (inY (lo := 0) (hi := 4) (by omega) hw (by omega) (j0 o1 (r_layBought hY' hs (by omega) (fun I2 m2 s2 f2 => ?_)))))
        have hI := h2 _ (fin I2 (hr'.rb f2) f2.lc)
        by_cases h2w : 2 ≤ w
        · rw [x2 h2w] at hI
          have es : nI w - 2 = nI (w - 2) := pk_sub (b := 2) h2w
          have e3 : (3 : Int32) * nI (w - 2) = nI (3 * (w - 2)) := pk_mul 3 _
          refine i1 (nI_le (a := 2) (b := w) h2w (by omega)) ?_
          rw [es, e3, nI_1, nI_2, ix_nI (by omega), ix_nI (by omega), ix_nI (by omega)]
          refine ⟨vp_in_nI (by omega) (by omega), vp_in_nI (by omega) (by omega), vp_in_nI (by omega) (by omega), ?_⟩
          have q0 := s2 (w - 2) 0 (by omega) (by omega)
          have q1 := s2 (w - 2) 1 (by omega) (by omega)
          have q2 := s2 (w - 2) 2 (by omega) (by omega)
          rw [show 3 * (w - 2) + 0 = 3 * (w - 2) from rfl, show 4 * (w - 2) + 0 = 4 * (w - 2) from rfl] at q0
          rw [q0, q1, q2, nI_add, nI_add, bs_sum hs]
          exact hI
        · refine i0 (nI_ge (a := w) (b := 2) (by omega) (by omega)) ?_
          have w2 : w = 0 ∨ w = 1 := by omega
          rcases w2 with rfl | rfl
          · rw [x0 rfl] at hI
            exact j1 rfl hI
          · refine j0 (by decide) ?_
            by_cases hz : wnF p (bL A) = 0
            · rw [x1 rfl hz] at hI
              rw [hz]
              exact j1 rfl hI
            · refine j0 (nI_ne0 (by omega) (by omega)) ?_
              have em : nI (wnF p (bL A)) - 1 = nI (wnF p (bL A) - 1) := pk_sub (b := 1) (by omega)
              rw [em, ix_nI (by omega)]
              have hlt : wnF p (bL A) - 1 < (bL A).length := by omega
              have he := List.getElem?_eq_getElem hlt
              rw [(m2 _ _ he).2.2]
              rw [x1' rfl _ (by omega) he] at hI
              exact ⟨vp_in_nI (by omega) (by omega), hI⟩
      by_cases hw0 : w = 0
      · subst hw0
        exact j1 rfl (val _ (fun _ => rfl) (by omega) (by omega) (by omega))
      · refine j0 (nI_ne0 (by omega) (by omega)) ?_
        by_cases hw1 : w = 1
        · subst hw1
          refine j1 rfl ?_
          by_cases hz : wnF p (bL A) = 0
          · rw [hz]
            exact i1 (by decide) (val _ (by omega) (fun _ _ => rfl) (fun _ e g => absurd g (by omega)) (by omega))
          · refine i0 (nI_nle (by omega) (by omega)) ?_
            have em : nI (wnF p (bL A)) - 1 = nI (wnF p (bL A) - 1) := pk_sub (b := 1) (by omega)
            rw [em, ix_nI (by omega)]
            have hlt : wnF p (bL A) - 1 < (bL A).length := by omega
            have he := List.getElem?_eq_getElem hlt
            rw [(hB.2 _ _ he).2.2]
            refine ⟨vp_in_nI (by omega) (by omega), val _ (by omega) (fun _ g => absurd g hz) (fun _ e _ he' => ?_) (by omega)⟩
            rw [he] at he'
            cases he'
            rfl
        · refine j0 (fun g => hw1 ((nI_eq (b := 1) (by omega) (by omega)).mp g)) ?_
          have es : nI w - 2 = nI (w - 2) := pk_sub (b := 2) (by omega)
          rw [es]
          exact c_ofBase hB hs hwn (by omega) (val _ (by omega) (by omega) (by omega) (fun _ => rfl))
    · have hn : ∀ j, 0 ≤ j → j ≤ 4 → ¬ b = nI j := fun j x y z => hw ⟨j, x, y, z⟩
      have no : Q (-1) I L := hQ _ _ _ (fun Q2 h2 => by
        unfold wp_X10_bought
        exact inY (lo := 0) (hi := 99) (by omega) hp9 (by omega) (i0 o1 (inN (lo := 0) (hi := 4) (by omega) (by omega) hn (j1 rfl (h2 _ h0)))))
      exact ⟨fun _ => no, fun z => ⟨fun z2 => absurd (rngG (lo := 0) (hi := 4) (by omega) (by omega) z (fun g => absurd z2 (Int32.not_le.mpr g))) hw, fun _ => no⟩⟩
  · have hn : ∀ j, 0 ≤ j → j ≤ 99 → ¬ a = nI j := fun j x y z => hpu ⟨j, x, y, z⟩
    refine puN hn (i1 rfl (hQ _ _ _ (fun Q2 h2 => ?_)))
    unfold wp_X10_bought
    exact inN (lo := 0) (hi := 99) (by omega) (by omega) hn (i1 rfl (h2 _ h0))
theorem numC0 : numC A 0 = 0 := by
  unfold numC
  rw [Nat.zero_div, Nat.zero_mod]
theorem m_lacksBy {Q : Int64 → MI → ML → Prop} (h : Iv k I L) (hQ : ∀ x I' L', (∀ Q2 : Int64 → MI → ML → Prop, (∀ I'' L'', Iv (k + 1) I'' L'' → Q2 x I'' L'') → wp_X10_lacksBy I' L' a b Q2) → Q x I' L') : wp_X9_lacksBy I L a b Q := by
  have h0 := h.up
  obtain ⟨A, U, t, n, hc, hr, hp, hu⟩ := h
  have hs := hp.1.1
  obtain ⟨Y, hY⟩ := hr.1
  unfold wp_X9_lacksBy
  by_cases hpu : ∃ p, 0 ≤ p ∧ p ≤ 99 ∧ a = nI p
  · obtain ⟨p, -, hp9, rfl⟩ := hpu
    have v1000 : vp_in (nI p) 1000 := vp_in_nI (by omega) (by omega)
    refine puY hp9 (j0 o1 ⟨fun hb0 => ?_, fun hb0 => ?_⟩)
    · refine vc_buys hc hs (fun I1 L1 v1 hW hB f1 => c_within hB hs (by omega) (c_countBuys hB hs (wnF_le p (bL A)) (fun I2 c2 f2 => ?_)))
      obtain ⟨b1, b2, b3⟩ := bL_b hs
      have w1 := v1.2.2.2.2
      have v2 : VC I2 L1 A U t n := v1.fw ⟨fun q hq => f2 q (by omega), fun _ _ => rfl⟩ ⟨by rw [f2 326 (by omega)]; exact w1.1, by
          rw [f2 326 (by omega)]
          rcases w1.2.1 with g | g
          · exact Or.inl g
          · exact Or.inr (g.fr (by rw [f2 326 (by omega)]) (fun q hq => f2 q (by omega))), by
          rw [f2 326 (by omega)]
          rcases w1.2.2 with g | g
          · exact Or.inl g
          · exact Or.inr (g.fr (fun q hq => f2 q (by omega)) rfl)⟩
      refine c_lackBy (f := cnF (bL A) (wnF p (bL A))) v2.1.pr hs hW (fun q hq _ => ⟨c2 q hq, by have := b2 q hq; have := cn_le (l := bL A) (n := wnF p (bL A)) (c := q); omega⟩) (hQ _ _ _ (fun Q2 h2 => ?_))
      have hr' := hr.fr (f1.tr (fun j hj => f2 j (by omega)))
      obtain ⟨Y', hY'⟩ := hr'.1
      unfold wp_X10_lacksBy
      refine inY (lo := 0) (hi := 99) (by omega) hp9 (by omega) (j0 o1 (i1 hb0 (r_layBought hY' hs (by omega) (fun I3 m3 s3 f3 => ?_))))
      have hv3 := hr'.rb f3
      obtain ⟨Y3, hY3⟩ := hv3.1
      refine r_lacksBy (f := cnF (bL A) (wnF p (bL A))) hY3 hs (fun b' p' hb' hp' => ?_) (h2 _ _ (Iv.mk' v2 hv3 f3.lc hp.up (PGs_up hu)))
      obtain ⟨hvc, hb3, hp3⟩ := vc_of hs hb' hp'
      refine ⟨s3 b' p' hb3 hp3, ?_⟩
      have := b2 (4 * b' + p') (by omega)
      have := cn_le (l := bL A) (n := wnF p (bL A)) (c := 4 * b' + p')
      omega
    · refine vc_best hc hs (fun I1 L1 v1 hD f1 => ⟨v1000, ?_⟩)
      have e1 : L1 333 (ix (nI p)) = lN (VV A 9 p).1 := by
        have := (hD 0 (by omega) p (by omega)).1
        rw [ix_nI (by omega)]
        rw [Nat.mul_zero, Nat.zero_add] at this
        exact this
      rw [e1]
      refine hQ _ _ _ (fun Q2 h2 => ?_)
      have hr' := hr.fr f1
      obtain ⟨Y', hY'⟩ := hr'.1
      unfold wp_X10_lacksBy
      refine inY (lo := 0) (hi := 99) (by omega) hp9 (by omega) (j0 o1 (i0 hb0 (r_layBest hY' hs (fun I2 L2 m2 f2 => ⟨v1000, ?_⟩))))
      have e2 : L2 345 (ix (nI p)) = lN (VV A 9 p).1 := by
        have := (m2 0 (by omega) (Nat.zero_le _) p (by omega)).1
        rw [ix_nI (by omega)]
        rw [Nat.mul_zero, Nat.zero_add, numC0] at this
        exact this
      rw [e2]
      refine h2 _ _ ⟨A, U, t, n, v1.fr f2.lc (fun j hj => f2.2 j (by omega)), hr'.rd' f2, hp.up, PGs_up hu⟩
  · have hn : ∀ j, 0 ≤ j → j ≤ 99 → ¬ a = nI j := fun j x y z => hpu ⟨j, x, y, z⟩
    refine puN hn (j1 rfl (hQ _ _ _ (fun Q2 h2 => ?_)))
    unfold wp_X10_lacksBy
    exact inN (lo := 0) (hi := 99) (by omega) (by omega) hn (j1 rfl (h2 _ _ h0))
theorem m_best {Q : Int32 → MI → ML → Prop} (h : Iv k I L) (hQ : ∀ x I' L', (∀ Q2 : Int32 → MI → ML → Prop, (∀ I'' L'', Iv (k + 1) I'' L'' → Q2 x I'' L'') → wp_X10_best I' L' a b c Q2) → Q x I' L') : wp_X9_best I L a b c Q := by
  have h0 := h.up
  obtain ⟨A, U, t, n, hc, hr, hp, hu⟩ := h
  have hs := hp.1.1
  obtain ⟨Y, hY⟩ := hr.1
  unfold wp_X9_best
  by_cases hpu : ∃ p, 0 ≤ p ∧ p ≤ 99 ∧ a = nI p
  · obtain ⟨p, -, hp9, rfl⟩ := hpu
    refine puY hp9 (i0 o1 ?_)
    by_cases hv : IC A b c
    · obtain ⟨⟨b', hb, rfl⟩, ⟨q, hq, rfl⟩⟩ := hv
      obtain ⟨hvc, hb3, hq3⟩ := vc_of hs hb hq
      have e3 : nI b' * 3 + nI q = nI (3 * b' + q) := by
        rw [show nI b' * (3 : Int32) = nI (b' * 3) from pk_mul b' 3, nI_add, Nat.mul_comm]
      refine cY hc.1 hs hb hq (j0 o1 (vc_best hc hs (fun I1 L1 v1 hD f1 => ?_)))
      rw [e3]
      refine c_bestSpares v1.1.pr hs hD (by omega) (by omega) (hQ _ _ _ (fun Q2 h2 => ?_))
      have hr' := hr.fr f1
      obtain ⟨Y', hY'⟩ := hr'.1
      unfold wp_X10_best
      refine inY (lo := 0) (hi := 99) (by omega) hp9 (by omega) (i0 o1 (rY hY' hs hb hq (j0 o1 (r_layBest hY' hs (fun I2 L2 m2 f2 => ⟨v0, ?_⟩)))))
      have hv2 := hr'.rd' f2
      obtain ⟨Y2, hY2⟩ := hv2.1
      have eP : I2 337 (ix 0) = nI (sN A 1 0) := hY2.n (j := 1) (i := 0) (by decide)
      have hP3 := hs.1.1
      have hB3 := hs.1.2.1
      have hPpos : 0 < sN A 1 0 := by omega
      have eto : nI b' * nI (sN A 1 0) + nI q = nI (b' * sN A 1 0 + q) := by rw [pk_mul, nI_add]
      have hto : b' * sN A 1 0 + q < sN A 1 1 * sN A 1 0 := by
        have h1 : (b' + 1) * sN A 1 0 ≤ sN A 1 1 * sN A 1 0 := Nat.mul_le_mul_right _ hb
        rw [Nat.succ_mul] at h1
        omega
      have h9c := cells9 hs
      have num : numC A (b' * sN A 1 0 + q) = 3 * b' + q := by
        unfold numC
        rw [Nat.add_comm (b' * sN A 1 0) q, Nat.add_mul_div_right _ _ hPpos, Nat.add_mul_mod_self_right, Nat.div_eq_of_lt hq, Nat.mod_eq_of_lt hq]
        omega
      rw [eP, eto]
      have lfle : ∀ i, lf A p i ≤ p := fun i => lf_le i
      have key : ∀ (r i : Nat), i + r = b' * sN A 1 0 + q → lp_X10_best_43 I2 (nI (b' * sN A 1 0 + q)) (fun x14 => (vp_in ((100 * nI (b' * sN A 1 0 + q)) + x14) 1000 ∧ Q2 (I2 347 (ix ((100 * nI (b' * sN A 1 0 + q)) + x14))) I2 L2)) (r + 1) (nI (lf A p (numC A i))) (nI i) := by
        intro r
        induction r with
        | zero =>
          intro i hi
          have ei : i = b' * sN A 1 0 + q := by omega
          subst ei
          unfold lp_X10_best_43
          have l1 := lfle (numC A (b' * sN A 1 0 + q))
          refine i1 (nI_le (Nat.le_refl _) (by omega)) ?_
          rw [show (100 : Int32) * nI (b' * sN A 1 0 + q) = nI (100 * (b' * sN A 1 0 + q)) from pk_mul 100 _, nI_add, ix_nI (by omega)]
          refine ⟨vp_in_nI (by omega) (by omega), ?_⟩
          rw [(m2 _ (Nat.zero_le _) (by omega) _ (by omega)).2.2 hto, num]
          exact h2 _ _ ⟨A, U, t, n, v1.fr f2.lc (fun j hj => f2.2 j (by omega)), hv2, hp.up, PGs_up hu⟩
        | succ r ih =>
          intro i hi
          have hi2 : i < sN A 1 1 * sN A 1 0 := by omega
          unfold lp_X10_best_43
          have l1 := lfle (numC A i)
          obtain ⟨n1, n2, n3, n4, n5, n6⟩ := num_f hs hi2
          refine i0 (nI_ge (by omega) (by omega)) ?_
          rw [eP, show (100 : Int32) * nI i = nI (100 * i) from pk_mul 100 _, nI_add, ix_nI (by omega), pk_rem (by omega) hPpos (by omega), show (20 : Int32) + nI (i % sN A 1 0) = nI (20 + i % sN A 1 0) from nI_add 20 _, ix_nI (by omega)]
          refine ⟨vp_in_nI (by omega) (by omega), v0, nI_ne0 (by omega) (by omega), vp_in_nI (by omega) (by omega), ?_⟩
          rw [(m2 i (Nat.zero_le _) (by omega) _ (by omega)).2.2 hi2, show I2 337 (20 + i % sN A 1 0) = nI (sN A 2 (i % sN A 1 0)) from hY2.n (j := 2) (i := i % sN A 1 0) (by unfold rd; exact decide_eq_true (by omega)), pk_mul, nI_1]
          have st : lf A p (numC A i + 1) = lf A p (numC A i) - (VV A (9 - numC A i) (lf A p (numC A i))).2.2 * sN A 2 (i % sN A 1 0) := by
            rw [← n6]; rfl
          have sle : (VV A (9 - numC A i) (lf A p (numC A i))).2.2 * sN A 2 (i % sN A 1 0) ≤ lf A p (numC A i) := by
            have := (VV_spec hs (j := 8 - numC A i) (m := lf A p (numC A i)) (by omega)).2.2.1
            rw [show 8 - numC A i + 1 = 9 - numC A i by omega, show 8 - (8 - numC A i) = numC A i by omega, n6] at this
            exact this
          rw [pk_sub sle, ← st, ← lf_next hs hi2]
          exact ih (i + 1) (by omega)
      refine ⟨b' * sN A 1 0 + q + 1, ?_⟩
      have := key (b' * sN A 1 0 + q) 0 (by omega)
      rw [numC0] at this
      exact this
    · refine cN hc.1 hs hv (j1 rfl (hQ _ _ _ (fun Q2 h2 => ?_)))
      unfold wp_X10_best
      exact inY (lo := 0) (hi := 99) (by omega) hp9 (by omega) (i0 o1 (rN hY hs hv (j1 rfl (h2 _ _ h0))))
  · have hn : ∀ j, 0 ≤ j → j ≤ 99 → ¬ a = nI j := fun j x y z => hpu ⟨j, x, y, z⟩
    refine puN hn (i1 rfl (hQ _ _ _ (fun Q2 h2 => ?_)))
    unfold wp_X10_best
    exact inN (lo := 0) (hi := 99) (by omega) (by omega) hn (i1 rfl (h2 _ _ h0))
end ODDL
