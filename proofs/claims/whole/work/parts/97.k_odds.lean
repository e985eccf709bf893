/-! by odds, side by side -/
section ODDK
variable {k : Nat} {I I' I1 I2 I3 : MI} {L L' : ML} {A B C : St} {U : List St} {t : Nat → Nat} {n : Nat} {Y : List (Nat × Nat × Nat × Nat)} {a b c d e : Int32}
theorem FW.hc (f : FW I L I' L') : HC I I' := fun j hj => f.1 j (by omega)
theorem VC.fw (h : VC I L A U t n) (f : FW I L I' L') (w : WI I' L' A) : VC I' L' A U t n :=
  ⟨h.1.frame (fun q a b => ⟨f.1 q (by omega), f.2 q (by omega)⟩), h.2.1.frame (fun q a b => ⟨f.1 q (by omega), f.2 q (by omega)⟩), h.2.2.1.fr1 (f.1 1 (by omega)), by rw [f.1 0 (by omega)]; exact h.2.2.2.1, w⟩
theorem WB.fr (h : WB I A) (e5 : I' 326 5 = I 326 5) (f : ∀ q, q = 329 ∨ q = 330 ∨ q = 331 → I' q = I q) : WB I' A := by
  unfold WB BR at h ⊢
  rw [e5, f 329 (by omega), f 330 (by omega), f 331 (by omega)]
  exact h
theorem WD.fr (h : WD I L A) (f : ∀ q, q = 334 ∨ q = 335 → I' q = I q) (g : L' 333 = L 333) : WD I' L' A := by
  unfold WD at h ⊢
  rw [f 334 (by omega), f 335 (by omega), g]
  exact h
theorem vc_lack {Q : MI → ML → Prop} (h : VC I L A U t n) (hs : SetOk A) (hQ : ∀ I' L', VC I' L' A U t n → WL L' A → HC I I' → Q I' L') : wp_X8_learnLack 3 I L Q := by
  have w := h.2.2.2.2
  refine c_learnLack h.1.pr hs w.1 (fun I' L' hW hI hL => ?_)
  have f1 : ∀ q, q ≠ 326 → I' q = I q := fun q hq => by
    rcases hI with e | ⟨e, -⟩
    · rw [e, u2_ne hq]
    · rw [e]
  have f2 : ∀ s, s ≠ 10 → I' 326 s = I 326 s := fun s hs => by
    rcases hI with e | ⟨e, -⟩
    · rw [e, u2_n2 hs]
    · rw [e]
  have f : FW I L I' L' := ⟨fun q hq => f1 q (by omega), fun q hq => hL q (by omega) (by omega)⟩
  refine hQ I' L' (h.fw f ⟨Or.inr hW, ?_, ?_⟩) hW f.hc
  · rcases w.2.1 with g | g
    · exact Or.inl (by rw [f2 11 (by omega)]; exact g)
    · exact Or.inr (g.fr (f2 5 (by omega)) (fun q hq => f1 q (by omega)))
  · rcases w.2.2 with g | g
    · exact Or.inl (by rw [f2 12 (by omega)]; exact g)
    · exact Or.inr (g.fr (fun q hq => f1 q (by omega)) (hL 333 (by omega) (by omega)))
theorem vc_buys {Q : MI → ML → Prop} (h : VC I L A U t n) (hs : SetOk A) (hQ : ∀ I' L', VC I' L' A U t n → WL L' A → WB I' A → HC I I' → Q I' L') : wp_X8_learnBuys 3 I L Q := by
  have w := h.2.2.2.2
  refine c_learnBuys h.1.pr hs w.1 w.2.1 (fun I' L' hW hB h10 h12 f33 g33 f => hQ I' L' (h.fw f ⟨Or.inr hW, Or.inr hB, ?_⟩) hW hB f.hc)
  rcases w.2.2 with g | g
  · exact Or.inl (by rw [h12]; exact g)
  · exact Or.inr (g.fr f33 g33)
theorem vc_best {Q : MI → ML → Prop} (h : VC I L A U t n) (hs : SetOk A) (hQ : ∀ I' L', VC I' L' A U t n → WD I' L' A → HC I I' → Q I' L') : wp_X8_learnBest 3 I L Q := by
  have w := h.2.2.2.2
  refine c_learnBest h.1.pr hs w.1 w.2.2 (fun I' L' hW hD h10 hs326 f33 f => hQ I' L' (h.fw f ⟨Or.inr hW, ?_, Or.inr hD⟩) hD f.hc)
  rcases w.2.1 with g | g
  · exact Or.inl (by rw [hs326 11 (by omega) (by omega)]; exact g)
  · exact Or.inr (g.fr (hs326 5 (by omega) (by omega)) f33)
theorem VR.frO (h : VR I A U t n) (a4 : I' 336 4 = I 336 4) (a6 : I' 336 6 = I 336 6) (f : ∀ j, j = 337 ∨ j = 339 ∨ j = 340 → I' j = I j) : VR I' A U t n := by
  obtain ⟨⟨Y, hY⟩, h2, h3, h4⟩ := h
  exact ⟨⟨Y, hY.cg (f 337 (by omega))⟩, h2.fr a4 (f 339 (by omega)), by rw [a6]; exact h3, by rw [f 340 (by omega)]; exact h4⟩
theorem VR.rb (h : VR I A U t n) (f : RB I I') : VR I' A U t n := h.frO (f.2 4 (by omega)) (f.2 6 (by omega)) (fun j hj => f.1 j (by omega) (by omega))
theorem RB.lc (f : RB I I') : LC I I' := fun j hj => f.1 j (by omega) (by omega)
theorem VR.rd' (h : VR I A U t n) (f : RD I L I' L') : VR I' A U t n := h.frO (by rw [f.1 336 (by omega) (by omega)]) (by rw [f.1 336 (by omega) (by omega)]) (fun j hj => f.1 j (by omega) (by omega))
theorem RD.lc (f : RD I L I' L') : LC I I' := fun j hj => f.1 j (by omega) (by omega)
theorem lg_self (x : Int64) : lg_cmp x x = 0 := (lg_cmp_eq x x).mpr rfl
theorem m_out {Q : Int64 → MI → ML → Prop} (h : Iv k I L) (hQ : ∀ x I' L', Iv (k + 1) I' L' → (∀ Q2 : Int64 → Prop, Q2 x → wp_X10_out I' a b c Q2) → Q x I' L') : wp_X9_out I L a b c Q := by
  have h0 := h.up
  obtain ⟨A, U, t, n, hc, hr, hp, hu⟩ := h
  have hs := hp.1.1
  obtain ⟨Y, hY⟩ := hr.1
  unfold wp_X9_out
  by_cases hv : IC A a b
  · obtain ⟨⟨b', hb, rfl⟩, ⟨p, hp', rfl⟩⟩ := hv
    obtain ⟨hvc, hb3, hp3⟩ := vc_of hs hb hp'
    have h16 : 4 * b' + p < 16 := by omega
    refine cY hc.1 hs hb hp' (i0 o1 ?_)
    by_cases hw : ∃ w, 0 ≤ w ∧ w ≤ 8 ∧ c = nI w
    · obtain ⟨w, -, hw, rfl⟩ := hw
      refine i0 (nI_pos (by omega)) (i1 (nI_le (a := w) (b := 8) hw (by omega)) (vc_lack hc hs (fun I1 L1 v1 hW f1 => s_placeOf (c_outOf h16 (by omega) ?_))))
      rw [hW.1 _ h16 w (by omega)]
      have hr' := hr.fr f1
      refine hQ _ _ _ ⟨A, U, t, n, v1, hr', hp.up, PGs_up hu⟩ (fun Q2 h2 => ?_)
      obtain ⟨Y', hY'⟩ := hr'.1
      unfold wp_X10_out
      obtain ⟨u1, u2⟩ := r_uo hY' hb3 hp3
      obtain ⟨b1, b2⟩ := uo_b hs h16
      exact rY hY' hs hb hp' (i0 o1 (inY (lo := 0) (hi := 8) (by omega) hw (by omega) (i0 o1 (r_cellOf (r_outOf (by omega) u1 u2 b1 b2 (by omega) h2)))))
    · have hn : ∀ j, 0 ≤ j → j ≤ 8 → ¬ c = nI j := fun j x y z => hw ⟨j, x, y, z⟩
      have no : Q (-1) I L := hQ _ _ _ h0 (fun Q2 h2 => by
        unfold wp_X10_out
        exact rY hY hs hb hp' (i0 o1 (inN (lo := 0) (hi := 8) (by omega) (by omega) hn (i1 rfl h2))))
      exact ⟨fun _ => no, fun z => ⟨fun z2 => absurd (rngG (lo := 0) (hi := 8) (by omega) (by omega) z (fun g => absurd z2 (Int32.not_le.mpr g))) hw, fun _ => no⟩⟩
  · refine cN hc.1 hs hv (i1 rfl (hQ _ _ _ h0 (fun Q2 h2 => ?_)))
    unfold wp_X10_out
    exact rN hY hs hv (i1 rfl h2)
theorem m_lack {Q : Int64 → MI → ML → Prop} (h : Iv k I L) (hQ : ∀ x I' L', Iv (k + 1) I' L' → (∀ Q2 : Int64 → Prop, Q2 x → wp_X10_lack I' a b c Q2) → Q x I' L') : wp_X9_lack I L a b c Q := by
  have h0 := h.up
  obtain ⟨A, U, t, n, hc, hr, hp, hu⟩ := h
  have hs := hp.1.1
  obtain ⟨Y, hY⟩ := hr.1
  unfold wp_X9_lack
  by_cases hv : IC A a b
  · obtain ⟨⟨b', hb, rfl⟩, ⟨p, hp', rfl⟩⟩ := hv
    obtain ⟨hvc, hb3, hp3⟩ := vc_of hs hb hp'
    have h16 : 4 * b' + p < 16 := by omega
    refine cY hc.1 hs hb hp' (i0 o1 ?_)
    by_cases hw : ∃ w, 0 ≤ w ∧ w ≤ 9 ∧ c = nI w
    · obtain ⟨w, -, hw, rfl⟩ := hw
      refine i0 (nI_pos (by omega)) (i1 (nI_le (a := w) (b := 9) hw (by omega)) (vc_lack hc hs (fun I1 L1 v1 hW f1 => s_placeOf (c_lackOf h16 (by omega) ?_))))
      rw [hW.2 _ h16 w (by omega)]
      have hr' := hr.fr f1
      refine hQ _ _ _ ⟨A, U, t, n, v1, hr', hp.up, PGs_up hu⟩ (fun Q2 h2 => ?_)
      obtain ⟨Y', hY'⟩ := hr'.1
      unfold wp_X10_lack
      exact rY hY' hs hb hp' (i0 o1 (inY (lo := 0) (hi := 9) (by omega) hw (by omega) (i0 o1 (r_cellOf (r_lack' hY' hs hb3 hp3 (by omega) h2)))))
    · have hn : ∀ j, 0 ≤ j → j ≤ 9 → ¬ c = nI j := fun j x y z => hw ⟨j, x, y, z⟩
      have no : Q (-1) I L := hQ _ _ _ h0 (fun Q2 h2 => by
        unfold wp_X10_lack
        exact rY hY hs hb hp' (i0 o1 (inN (lo := 0) (hi := 9) (by omega) (by omega) hn (i1 rfl h2))))
      exact ⟨fun _ => no, fun z => ⟨fun z2 => absurd (rngG (lo := 0) (hi := 9) (by omega) (by omega) z (fun g => absurd z2 (Int32.not_le.mpr g))) hw, fun _ => no⟩⟩
  · refine cN hc.1 hs hv (i1 rfl (hQ _ _ _ h0 (fun Q2 h2 => ?_)))
    unfold wp_X10_lack
    exact rN hY hs hv (i1 rfl h2)
theorem m_sure {Q : Int32 → MI → ML → Prop} (h : Iv k I L) (hQ : ∀ x I' L', Iv (k + 1) I' L' → (∀ Q2 : Int32 → Prop, Q2 x → wp_X10_sure I' a b c Q2) → Q x I' L') : wp_X9_sure I L a b c Q := by
  have h0 := h.up
  obtain ⟨A, U, t, n, hc, hr, hp, hu⟩ := h
  have hs := hp.1.1
  obtain ⟨Y, hY⟩ := hr.1
  unfold wp_X9_sure
  by_cases hv : IC A a b
  · obtain ⟨⟨b', hb, rfl⟩, ⟨p, hp', rfl⟩⟩ := hv
    obtain ⟨hvc, hb3, hp3⟩ := vc_of hs hb hp'
    have h16 : 4 * b' + p < 16 := by omega
    refine cY hc.1 hs hb hp' (i0 o1 ?_)
    by_cases hw : ∃ w, 0 ≤ w ∧ w ≤ 100 ∧ c = nI w
    · obtain ⟨w, -, hw, rfl⟩ := hw
      refine i0 (nI_pos (by omega)) (i1 (nI_le (a := w) (b := 100) hw (by omega)) (vc_lack hc hs (fun I1 L1 v1 hW f1 => s_placeOf (c_sure h16 hs hW hw ?_))))
      have hr' := hr.fr f1
      refine hQ _ _ _ ⟨A, U, t, n, v1, hr', hp.up, PGs_up hu⟩ (fun Q2 h2 => ?_)
      obtain ⟨Y', hY'⟩ := hr'.1
      refine r_sure hY' hs hb hp' (fun w' hw' e => ?_) (fun z => absurd rfl (z w hw))
      have eq : w' = w := ((nI_eq (by omega) (by omega)).mp e).symm
      rw [eq]
      exact h2
    · have no : Q (-1) I L := hQ _ _ _ h0 (fun Q2 h2 => r_sure hY hs hb hp' (fun w hw' e => absurd ⟨w, Nat.zero_le _, hw', e⟩ hw) (fun _ => h2))
      exact ⟨fun _ => no, fun z => ⟨fun z2 => absurd (rngG (lo := 0) (hi := 100) (by omega) (by omega) z (fun g => absurd z2 (Int32.not_le.mpr g))) hw, fun _ => no⟩⟩
  · refine cN hc.1 hs hv (i1 rfl (hQ _ _ _ h0 (fun Q2 h2 => ?_)))
    unfold wp_X10_sure
    exact rN hY hs hv (i1 rfl h2)
theorem r_copyS {Q : MI → Prop} (hQ : ∀ I', (∀ q, q < 9 → I' 344 q = I 337 (50 + q)) → (∀ j, j ≠ 344 → I' j = I j) → Q I') : ∃ N, lp_X10_lacks_2 Q N 0 I := by
  have key : ∀ (r i : Nat) (J : MI), i + r = 9 → (∀ q, q < i → J 344 q = I 337 (50 + q)) → (∀ j, j ≠ 344 → J j = I j) → lp_X10_lacks_2 Q (r + 1) (nI i) J := by
    intro r
    induction r with
    | zero =>
      intro i J hi h1 h2
      have e : i = 9 := by omega
      subst e
      unfold lp_X10_lacks_2
      exact i1 (by decide) (hQ J h1 h2)
    | succ r ih =>
      intro i J hi h1 h2
      unfold lp_X10_lacks_2
      refine i0 (nI_ge (a := i) (b := 9) (by omega) (by omega)) ?_
      rw [show (50 : Int32) + nI i = nI (50 + i) from nI_add 50 i, ix_nI (by omega), ix_nI (by omega), nI_1]
      refine ⟨vp_in_nI (by omega) (by omega), vp_in_nI (by omega) (by omega), fun I4 e4 => ih (i + 1) I4 (by omega) (fun q hq => ?_) (fun j hj => by rw [e4, u2_ne hj]; exact h2 j hj)⟩
      rw [e4, u2_at]
      by_cases hqi : q = i
      · rw [if_pos ⟨rfl, hqi⟩, h2 337 (by omega), hqi]
      · rw [if_neg (fun z => hqi z.2)]
        exact h1 q (by omega)
  exact ⟨10, by rw [← nI_0]; exact key 9 0 I (by omega) (fun q hq => absurd hq (by omega)) (fun _ _ => rfl)⟩
theorem m_lacks {Q : Int64 → MI → ML → Prop} (h : Iv k I L) (hQ : ∀ x I' L', (∀ Q2 : Int64 → MI → Prop, (∀ I'', Iv (k + 1) I'' L' → Q2 x I'') → wp_X10_lacks I' Q2) → Q x I' L') : wp_X9_lacks I L Q := by
  obtain ⟨A, U, t, n, hc, hr, hp, hu⟩ := h
  have hs := hp.1.1
  unfold wp_X9_lacks
  refine vc_lack hc hs (fun I1 L1 v1 hW f1 => c_lackBy (f := sN A 9) v1.1.pr hs hW (fun q hq hv => ⟨v1.1.n (nd9 hq), by have := hp.2.1 q hq; omega⟩) (hQ _ _ _ (fun Q2 h2 => ?_)))
  have hr' := hr.fr f1
  obtain ⟨Y', hY'⟩ := hr'.1
  unfold wp_X10_lacks
  refine r_copyS (fun I2 c2 f2 => ?_)
  have hv2 : VR I2 A U t n := hr'.frO (by rw [f2 336 (by omega)]) (by rw [f2 336 (by omega)]) (fun j hj => f2 j (by omega))
  obtain ⟨Y2, hY2⟩ := hv2.1
  refine r_lacksBy (f := sN A 9) hY2 hs (fun b p hb hp' => ?_) (h2 _ (Iv.mk' v1 hv2 (fun j hj => f2 j (by omega)) hp.up (PGs_up hu)))
  obtain ⟨hvc, hb3, hp3⟩ := vc_of hs hb hp'
  have hrd : rd 9 (4 * b + p) = true := rdc (by omega) (by omega) (by omega) (by omega)
  refine ⟨?_, by have := hp.2.1 (4 * b + p) (by omega); omega⟩
  rw [c2 _ (by omega), ← ri9 (by omega)]
  exact hY'.n hrd
theorem m_buys {Q : Int32 → MI → ML → Prop} (h : Iv k I L) (hQ : ∀ x I' L', (∀ Q2 : Int32 → MI → Prop, (∀ I'', Iv (k + 1) I'' L' → Q2 x I'') → wp_X10_buys I' a b Q2) → Q x I' L') : wp_X9_buys I L a b Q := by
  obtain ⟨A, U, t, n, hc, hr, hp, hu⟩ := h
  have hs := hp.1.1
  unfold wp_X9_buys
  refine vc_buys hc hs (fun I1 L1 v1 hW hB f1 => ?_)
  have hr' := hr.fr f1
  obtain ⟨Y', hY'⟩ := hr'.1
  obtain ⟨b1, b2, b3⟩ := bL_b hs
  have fin : ∀ I2, VR I2 A U t n → LC I1 I2 → Iv (k + 1) I2 L1 := fun I2 v2 l2 => Iv.mk' v1 v2 l2 hp.up (PGs_up hu)
  have none : a < 0 ∨ (∀ j, 0 ≤ j → j ≤ 3 → ¬ b = nI j) ∨ (¬ a < 0 ∧ ¬ a < nI (bL A).length) → Q (-1) I1 L1 := by
    intro hno
    refine hQ _ _ _ (fun Q2 h2 => ?_)
    unfold wp_X10_buys
    by_cases ha : a < 0
    · exact i1 ha (h2 _ (fin I1 hr' LC.rf))
    · refine i0 ha ?_
      by_cases hw : ∃ w, 0 ≤ w ∧ w ≤ 3 ∧ b = nI w
      · obtain ⟨w, -, hw, rfl⟩ := hw
        refine inY (lo := 0) (hi := 3) (by omega) hw (by omega) (j0 o1 (r_layBuys hY' hs (fun I2 e2 m2 f2 => ?_)))
        rw [e2]
        rcases hno with g | g | g
        · exact absurd g ha
        · exact absurd rfl (g w (Nat.zero_le _) hw)
        · exact i0 g.2 (h2 _ (fin I2 (hr'.rb f2) f2.lc))
      · exact inN (lo := 0) (hi := 3) (by omega) (by omega) (fun j x y z => hw ⟨j, x, y, z⟩) (j1 rfl (h2 _ (fin I1 hr' LC.rf)))
  refine ⟨fun z => none (Or.inl z), fun z => ?_⟩
  rw [hB.1]
  refine ⟨fun z2 => ?_, fun z2 => none (Or.inr (Or.inr ⟨z, z2⟩))⟩
  obtain ⟨q, hq, rfl⟩ := nI_of z
  have hlt : q < (bL A).length := (nI_ltI hq (by omega)).mp z2
  obtain ⟨e, he⟩ : ∃ e, (bL A)[q]? = some e := ⟨_, List.getElem?_eq_getElem hlt⟩
  obtain ⟨w1, w2, w3⟩ := hB.2 q e he
  have hm := b1 e (List.mem_of_getElem? he)
  have hvl := vc_lt hs hm.1
  have v72 : vp_in (nI q) 72 := vp_in_nI (by omega) (by omega)
  have v90 : vp_in (nI q) 90 := vp_in_nI (by omega) (by omega)
  rw [ix_nI hq, w1, w2, w3]
  have val : ∀ w x, w ≤ 3 → b = nI w → (w = 0 → x = nI (e.1 / 4)) → (w = 1 → x = nI (e.1 % 4)) → (w = 2 → x = nI e.2.1) → (w = 3 → x = nI e.2.2) → Q x I1 L1 := by
    intro w x hw eb x0 x1 x2 x3
    subst eb
    refine hQ _ _ _ (fun Q2 h2 => ?_)
    unfold wp_X10_buys
    refine i0 z (inY (lo := 0) (hi := 3) (by omega) hw (by omega) (j0 o1 (r_layBuys hY' hs (fun I2 e2 m2 f2 => ?_))))
    have hI := h2 _ (fin I2 (hr'.rb f2) f2.lc)
    obtain ⟨n1, n2, n3⟩ := m2 q e he
    have c3e : c3 e.1 = 3 * (e.1 / 4) + e.1 % 4 := rfl
    have d3 : nI (c3 e.1) / 3 = nI (e.1 / 4) := by
      rw [show (3 : Int32) = nI 3 from rfl, pk_div (by omega) (by omega) (by omega)]
      congr 1
      omega
    have m3 : nI (c3 e.1) - nI (c3 e.1) / 3 * 3 = nI (e.1 % 4) := by
      rw [show (3 : Int32) = nI 3 from rfl, pk_rem (by omega) (by omega) (by omega)]
      congr 1
      omega
    rw [e2, ix_nI hq, n1, n2, n3, m3, d3]
    refine i1 z2 ?_
    have w4 : w = 0 ∨ w = 1 ∨ w = 2 ∨ w = 3 := by omega
    rcases w4 with rfl | rfl | rfl | rfl
    · rw [x0 rfl] at hI
      exact j1 rfl ⟨v90, hI⟩
    · rw [x1 rfl] at hI
      exact j0 (by decide) (j1 rfl ⟨v90, hI⟩)
    · rw [x2 rfl] at hI
      exact j0 (by decide) (j0 (by decide) (j1 rfl ⟨v90, hI⟩))
    · rw [x3 rfl] at hI
      exact j0 (by decide) (j0 (by decide) (j0 (by decide) ⟨v90, hI⟩))
  refine ⟨fun g => ⟨v72, s_base (by omega) (val 0 _ (by omega) g (fun _ => rfl) (by omega) (by omega) (by omega))⟩, fun g0 => ⟨fun g => ⟨v72, s_part (val 1 _ (by omega) g (by omega) (fun _ => rfl) (by omega) (by omega))⟩, fun g1 => ⟨fun g => ⟨v72, val 2 _ (by omega) g (by omega) (by omega) (fun _ => rfl) (by omega)⟩, fun g2 => ⟨fun g => ⟨v72, val 3 _ (by omega) g (by omega) (by omega) (by omega) (fun _ => rfl)⟩, fun g3 => none (Or.inr (Or.inl (fun j _ hj ej => ?_)))⟩⟩⟩⟩
  have w4 : j = 0 ∨ j = 1 ∨ j = 2 ∨ j = 3 := by omega
  rcases w4 with rfl | rfl | rfl | rfl
  · exact g0 ej
  · exact g1 ej
  · exact g2 ej
  · exact g3 ej
end ODDK
