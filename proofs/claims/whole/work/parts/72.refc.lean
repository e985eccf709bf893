theorem r_onBenches {I : MI} {A : St} {Y : List (Nat × Nat × Nat × Nat)} {Q : Int32 → Prop} (h : RR I A Y) (hk : ∀ y ∈ sY A, y.1 ≤ 4) (hQ : Q (nI ((sY A).countP k2))) : wp_X10_onBenches I Q := by
  have e16 : I 337 16 = nI Y.length := h.2.1.2.2.1
  have hl := h.2.2.2.2.2.2.2.2.2.1
  have hlst := h.2.2.2.2.1
  have hp := h.2.2.2.2.2.2.1
  rw [← hp.countP_eq k2] at hQ
  have i16 : ix 16 = 16 := by decide
  have key : ∀ (n i m : Nat), i + n = Y.length → Q (nI (m + (Y.drop i).countP k2)) → lp_X10_onBenches_4 I Q (n + 1) (nI m) (nI i) := by
    intro n
    induction n with
    | zero =>
      intro i m hi hq
      unfold lp_X10_onBenches_4
      rw [i16, e16]
      refine ⟨v16, fun _ => ?_, fun z => absurd (nI_le (by omega) (by omega)) z⟩
      rw [List.drop_of_length_le (by omega)] at hq
      exact hq
    | succ n ih =>
      intro i m hi hq
      have hil : i < Y.length := by omega
      have hz : (1012 : Int32) + 5 * nI i = nI (1012 + 5 * i) := by
        rw [show (5 : Int32) = nI 5 from rfl, pk_mul, show (1012 : Int32) = nI 1012 from rfl, nI_add]
      have hg : Y[i]? = some Y[i] := List.getElem?_eq_getElem hil
      have x0 : I 337 (1012 + 5 * i) = nI Y[i].1 := hlst i _ hg 0 (by omega)
      have hk4 := hk _ (hp.mem_iff.mp (List.getElem_mem hil))
      rw [List.drop_eq_getElem_cons hil, List.countP_cons] at hq
      unfold lp_X10_onBenches_4
      rw [i16, e16, hz, ix_nI (by omega), x0]
      refine ⟨v16, fun z => absurd z (nI_ge (by omega) (by omega)), fun _ => ⟨vp_in_nI (by omega) (by omega), ?_⟩⟩
      refine (pk_eq Y[i].1 2 (fun z => ?_) (fun z => ?_)).symm
      · unfold jn_X10_onBenches_37
        rw [show k2 Y[i] = true from by simp [k2, z]] at hq
        rw [nI_1, nI_1]
        refine ih (i + 1) (m + 1) (by omega) ?_
        rw [show m + 1 + (Y.drop (i + 1)).countP k2 = m + ((Y.drop (i + 1)).countP k2 + 1) by omega]
        simpa using hq
      · unfold jn_X10_onBenches_37
        rw [show k2 Y[i] = false from by simp [k2, z]] at hq
        rw [show (0 : Int32) = nI 0 from rfl, nI_add, nI_1]
        exact ih (i + 1) m (by omega) (by simpa using hq)
  unfold wp_X10_onBenches
  refine ⟨Y.length + 1, ?_⟩
  rw [← nI_0]
  exact key Y.length 0 0 (by omega) (by simpa using hQ)
theorem r_loads {I : MI} {A : St} {Q : MI → Prop} (h : ∃ Y, RR I A Y) (hs : SetOk A) (hd : DynOk A) (hQ : ∀ I', (∃ Y, RR I' (fill 3 A) Y) → RF I I' → Q I') : wp_X10_loads I Q := by
  have key : ∀ (n : Nat) (A : St) (I : MI), (∃ Y, RR I A Y) → SetOk A → DynOk A → sN A 1 2 ≤ n + sN A 0 11 → (∀ I', (∃ Y, RR I' (fill n A) Y) → RF I I' → Q I') → lp_X10_loads_0 Q (n + 1) I := by
    intro n
    induction n with
    | zero =>
      intro A I h hs hd hn hQ
      obtain ⟨Y, h⟩ := h
      have e2 : I 337 2 = nI (sN A 1 2) := h.n (j := 1) (i := 2) (by decide)
      have h10 := hd.2.2.2.2.2.2.2.2.2.1
      have hben := hs.1.2.2.2.1
      have hyl := hd.yl
      have := List.countP_le_length (p := k2) (l := sY A)
      unfold lp_X10_loads_0
      refine ⟨v17, fun _ => hQ I ⟨Y, h⟩ RF.rf, fun _ => r_onBenches h (fun y hy => (hd.2.2.2.2.2.1 y hy).1) ⟨v2, fun _ => hQ I ⟨Y, h⟩ RF.rf, fun z => absurd ?_ z⟩⟩
      rw [show ix 2 = 2 from by decide, e2]
      exact nI_le (by omega) (by omega)
    | succ n ih =>
      intro A I h hs hd hn hQ
      obtain ⟨Y, h⟩ := h
      have e2 : I 337 2 = nI (sN A 1 2) := h.n (j := 1) (i := 2) (by decide)
      have e17 : I 337 17 = nI (sQ A).length := h.2.1.2.2.2
      have hlq := h.2.2.2.2.2.2.2.2.2.2
      have h10 := hd.2.2.2.2.2.2.2.2.2.1
      have hben := hs.1.2.2.2.1
      have hyl := hd.yl
      have hcl := List.countP_le_length (p := k2) (l := sY A)
      unfold lp_X10_loads_0
      rw [show ix 2 = 2 from by decide, e2, show ix 17 = 17 from by decide, e17]
      refine ⟨v17, pk_le (sQ A).length 0 (fun z => hQ I ⟨Y, ?_⟩ RF.rf) (fun z => r_onBenches h (fun y hy => (hd.2.2.2.2.2.1 y hy).1) ⟨v2, pk_le (sN A 1 2) ((sY A).countP k2) (fun w => hQ I ⟨Y, ?_⟩ RF.rf) (fun w => ?_)⟩)⟩
      · unfold fill
        have : sQ A = [] := List.eq_nil_of_length_eq_zero (by omega)
        by_cases hq : sN A 1 2 ≤ sN A 0 11
        · rw [if_pos hq]; exact h
        · rw [if_neg hq, this]; exact h
      · unfold fill
        rw [if_pos (by omega)]
        exact h
      · cases hq : sQ A with
        | nil => rw [hq] at z; exact absurd z (by simp)
        | cons p qs =>
          obtain ⟨a1, a2, a3⟩ := fill1_ok hs hd hq
          obtain ⟨b1, b2⟩ := fill2_ok hs hd hq
          have hparts := hs.1.1
          have hlst := h.2.2.2.2.2.1
          have x0 : I 337 2012 = nI p := hlst 0 p (by rw [hq]; rfl) 0 (by omega)
          rw [← hq, show ix 2012 = 2012 from by decide, x0, show (26 : Int32) = nI 26 from rfl, nI_add, ix_nI (by omega)]
          refine ⟨v2012, v17, r_closes (base := 2012) (wide := 1) (k := 0) hlst z (by omega) (fun I8 q1 q2 q3 => ?_)⟩
          refine ⟨v17, v17, fun I11 e11 => ⟨vp_in_nI (by omega) (by omega), ?_⟩⟩
          have g17 : I8 337 17 = nI (sQ A).length := by rw [q2 _ (by omega)]; exact e17
          have hql : (sQ A).length = qs.length + 1 := by rw [hq]; rfl
          rw [g17, hql, nI_pred] at e11
          have h11 : RR I11 (setQ A qs) Y := by
            have e : (sQ A).eraseIdx 0 = qs := by rw [hq]; rfl
            rw [e] at q1
            refine h.putQ (fun s hs hs2 => ?_) ?_ (q1.fr (fun s h1 h2 => ?_)) (by omega)
            · rw [e11, u2_n2 hs2, q2 s (by omega)]
            · rw [e11, u2_s]
            · rw [e11, u2_n2 (by omega)]
          have g26 : I11 337 (26 + p) = nI (sN A 4 p) := h11.n (j := 4) (i := p) (by unfold rd; simp; omega)
          have hYl : Y.length = (sY A).length := h.2.2.2.2.2.2.1.length_eq
          rw [g26, show nI p = nI (p % 4) by rw [Nat.mod_eq_of_lt (by omega)], show (2 : Int32) = nI 2 from rfl]
          have f11 : RF I I11 := fun a ha => by rw [e11, u2_ne ha, q3 a ha]
          have hyq : (sY A).length + (sQ A).length ≤ 183 := hyl
          refine r_begins (k := 2) (c := p) h11 (by omega) (by simp; rfl) (fun I14 h14 f14 => ?_)
          refine ih (begW (setQ A qs) 2 p (sN A 4 p)) I14 ⟨_, h14⟩ b1 b2 ?_ (fun I' h' f' => hQ I' ?_ ((f11.tr f14).tr f'))
          · rw [begW_11, begW_Nj (by omega)]
            show sN A 1 2 ≤ n + (sN A 0 11 + 1)
            omega
          · unfold fill
            rw [if_neg (by omega), hq]
            exact h'
  unfold wp_X10_loads
  exact ⟨4, key 3 A I h hs hd (by have := hs.1.2.2.2.1; omega) hQ⟩
theorem cell_eq {b p : Nat} : (3 : Int32) * nI b + nI p = nI (3 * b + p) := by
  rw [show (3 : Int32) = nI 3 from rfl, pk_mul, nI_add]
theorem r_cellOf {b p : Nat} {Q : Int32 → Prop} (h : Q (nI (3 * b + p))) : wp_X10_cellOf (nI b) (nI p) Q := by
  unfold wp_X10_cellOf
  rw [cell_eq]
  exact h
theorem rdc {j c : Nat} (h1 : 7 ≤ j) (h2 : j ≤ 11) (hc : c < 12) (h3 : c % 4 < 3) : rd j c = true := by
  unfold rd
  exact decide_eq_true (by omega)
theorem r_comes {I : MI} {A : St} {c : Nat} {t s : Nat} {Q : MI → Prop} (h : ∃ Y, RR I A Y) (hs : SetOk A) (hd : DynX t s A) (hc : vc A c) (hQ : ∀ I', (∃ Y, RR I' (recv A c) Y) → RF I I' → Q I') : wp_X10_comes I (nI (c / 4)) (nI (c % 4)) Q := by
  obtain ⟨Y, h⟩ := h
  have hc12 := vc_lt hs hc
  have e14 : I 337 14 = nI (sW A).length := h.2.1.1
  have hl := h.2.2.2.2.2.2.2.1
  have hlst := h.2.2.1
  have i14 : ix 14 = 14 := by decide
  have hW : ∀ w ∈ sW A, w.1 < 16 := fun w hw => by have := vc_lt hs (hd.2.2.2.1 w hw).1; omega
  have key : ∀ (kf : Int32 → Prop) (n i : Nat), i + n = (sW A).length → (fidx (fun w : Nat × Nat × Nat => w.1 == c) ((sW A).drop i) i 0 = none → kf (nI (sW A).length)) → (∀ k, fidx (fun w : Nat × Nat × Nat => w.1 == c) ((sW A).drop i) i 0 = some k → kf (nI k)) → lp_X10_comes_2 I (nI (c / 4)) (nI (c % 4)) kf (n + 1) (nI i) := by
    intro kf n
    induction n with
    | zero =>
      intro i hi h0 h1
      unfold lp_X10_comes_2
      rw [i14, e14]
      refine ⟨v14, fun _ => ?_, fun z => absurd (nI_le (by omega) (by omega)) z⟩
      rw [List.drop_of_length_le (by omega)] at h0
      have : i = (sW A).length := by omega
      rw [this]
      exact h0 rfl
    | succ n ih =>
      intro i hi h0 h1
      have hil : i < (sW A).length := by omega
      have hw16 := hW _ (List.getElem_mem hil)
      have hz : (92 : Int32) + 4 * nI i = nI (92 + 4 * i) := by
        rw [show (4 : Int32) = nI 4 from rfl, pk_mul, show (92 : Int32) = nI 92 from rfl, nI_add]
      have hg : (sW A)[i]? = some (sW A)[i] := List.getElem?_eq_getElem hil
      have x0 : I 337 (92 + 4 * i) = nI ((sW A)[i].1 / 4) := hlst i _ hg 0 (by omega)
      have x1 : I 337 (92 + 4 * i + 1) = nI ((sW A)[i].1 % 4) := hlst i _ hg 1 (by omega)
      rw [List.drop_eq_getElem_cons hil, fidx_cons] at h0 h1
      unfold lp_X10_comes_2
      rw [i14, e14, hz, nI_1, ix_nI (by omega), ix_nI (by omega), x0, x1]
      have no : ¬ (sW A)[i].1 = c → jn_X10_comes_45 (nI i) (fun x5 => (lp_X10_comes_2 I (nI (c / 4)) (nI (c % 4)) kf (n + 1) x5)) := by
        intro z
        unfold jn_X10_comes_45
        have : ((sW A)[i].1 == c) = false := by simpa using z
        rw [this] at h0 h1
        rw [nI_1]
        exact ih (i + 1) (by omega) h0 h1
      refine ⟨v14, fun z => absurd z (nI_ge (by omega) (by omega)), fun _ => ⟨vp_in_nI (by omega) (by omega), fun z => no (fun q => z (by rw [q])), fun z => ⟨vp_in_nI (by omega) (by omega), fun w => ?_, fun w => no (fun q => w (by rw [q]))⟩⟩⟩
      have z := (nI_eq (by omega) (by omega)).mp z
      have w := (nI_eq (by omega) (by omega)).mp w
      have : ((sW A)[i].1 == c) = true := by simp; omega
      rw [this] at h1
      exact h1 i rfl
  have hr10 := rdc (j := 10) (by omega) (by omega) hc12.1 hc12.2
  have hr11 := rdc (j := 11) (by omega) (by omega) hc12.1 hc12.2
  have c62 : (62 : Int32) + nI (3 * (c / 4) + c % 4) = nI (62 + (3 * (c / 4) + c % 4)) := by rw [show (62 : Int32) = nI 62 from rfl, nI_add]
  have c74 : (74 : Int32) + nI (3 * (c / 4) + c % 4) = nI (74 + (3 * (c / 4) + c % 4)) := by rw [show (74 : Int32) = nI 74 from rfl, nI_add]
  unfold wp_X10_comes
  refine ⟨(sW A).length + 1, ?_⟩
  rw [← nI_0]
  refine key _ (sW A).length 0 (by omega) (fun h0 => ?_) (fun k hk => ?_)
  · have h0 : wIdx1 A c = none := h0
    unfold jn_X10_comes_51
    rw [i14, e14]
    refine ⟨v14, fun z => absurd rfl z, fun _ => r_cellOf ?_⟩
    rw [c62, ix_nI (by omega)]
    refine ⟨vp_in_nI (by omega) (by omega), vp_in_nI (by omega) (by omega), fun I40 e40 => ?_⟩
    have g : I 337 (62 + (3 * (c / 4) + c % 4)) = nI (sN A 10 c) := h.n hr10
    rw [g, nI_1] at e40
    refine hQ I40 ⟨Y, ?_⟩ (RF.u e40)
    rw [recv_none h0]
    exact h.putN hr10 e40
  · have hk : wIdx1 A c = some k := hk
    obtain ⟨w, hw, hwc⟩ := wIdx1_some hk
    have hkl := lt_of_get hw
    have hmem := List.mem_of_getElem? hw
    unfold jn_X10_comes_51
    rw [i14, e14]
    have hz : (92 : Int32) + 4 * nI k = nI (92 + 4 * k) := by
      rw [show (4 : Int32) = nI 4 from rfl, pk_mul, show (92 : Int32) = nI 92 from rfl, nI_add]
    have x2 : I 337 (92 + 4 * k + 2) = nI w.2.1 := hlst k _ hw 2 (by omega)
    have e5 : I 337 5 = nI (sN A 0 9) := h.n (j := 0) (i := 9) (by decide)
    rw [hz, show (2 : Int32) = nI 2 from rfl, nI_add, ix_nI (n := 92 + 4 * k + 2) (by omega), x2, show ix 5 = 5 from by decide, e5]
    refine ⟨v14, fun _ => ⟨v5, vp_in_nI (by omega) (by omega), v14, r_closes (base := 92) (wide := 4) hlst hkl (by omega) (fun I16 q1 q2 q3 => ?_)⟩, fun z => absurd ((nI_eq (by omega) (by omega)).mp z) (by omega)⟩
    refine ⟨v14, v14, fun I19 e19 => r_cellOf ?_⟩
    rw [c74, ix_nI (by omega)]
    refine ⟨vp_in_nI (by omega) (by omega), vp_in_nI (by omega) (by omega), fun I23 e23 => ⟨v8, v8, fun I26 e26 => ⟨v9, v9, fun I29 e29 => ⟨v10, ?_⟩⟩⟩⟩
    have g14 : I16 337 14 = nI (sW A).length := by rw [q2 _ (by omega)]; exact e14
    obtain ⟨m, hm⟩ : ∃ m, (sW A).length = m + 1 := ⟨(sW A).length - 1, by omega⟩
    rw [g14, hm, nI_pred] at e19
    have hlen : ((sW A).eraseIdx k).length = m := by rw [List.length_eraseIdx_of_lt hkl]; omega
    have h19 : RR I19 (setW A ((sW A).eraseIdx k)) Y := by
      refine h.putW (fun s hs hs2 => ?_) ?_ (q1.fr (fun s h1 h2 => ?_)) (by omega)
      · rw [e19, u2_n2 hs2, q2 s (by omega)]
      · rw [e19, u2_s, hlen]
      · rw [e19, u2_n2 (by omega)]
    have g11 : I19 337 (74 + (3 * (c / 4) + c % 4)) = nI (sN A 11 c) := h19.n hr11
    have hpos : 1 ≤ sN A 11 c := by
      have hcnt := countP_erase (fun w : Nat × Nat × Nat => w.1 == c) (sW A) k w hw
      simp [hwc] at hcnt
      have := (hd.1 c (by omega)).2
      omega
    have e23' : I23 = u2 I19 337 (ri 11 c) (nI (sN A 11 c - 1)) := by
      rw [e23, g11]
      show u2 I19 337 (74 + (3 * (c / 4) + c % 4)) _ = u2 I19 337 (74 + (3 * (c / 4) + c % 4)) _
      congr 1
      obtain ⟨r, hr⟩ : ∃ r, sN A 11 c = r + 1 := ⟨sN A 11 c - 1, by omega⟩
      rw [hr, nI_pred]
      rfl
    have h23 := h19.putN hr11 e23'
    have g8 : I23 337 8 = sT A 0 14 := h23.t (j := 0) (i := 14) (by decide)
    rw [show ix 8 = 8 from by decide, g8] at e26
    have h26 := h23.putT (j := 0) (i := 14) (by decide) e26
    have g9 : I26 337 9 = sT A 0 15 := by
      rw [show I26 337 9 = _ from h26.t (j := 0) (i := 15) (by decide)]
      simp [sT, setT, u2_at]
    rw [show ix 9 = 9 from by decide, g9] at e29
    have h29 := h26.putT (j := 0) (i := 15) (by decide) e29
    have g10 : I29 337 10 = sT A 0 16 := by
      rw [show I29 337 10 = _ from h29.t (j := 0) (i := 16) (by decide)]
      simp [sT, setT, u2_at]
    have f29 : RF I I29 := fun a ha => by rw [e29, u2_ne ha, e26, u2_ne ha, e23, u2_ne ha, e19, u2_ne ha, q3 a ha]
    rw [show ix 10 = 10 from by decide, g10]
    have fin : ∀ I34, I34 = u2 I29 337 10 (if sT A 0 16 < nI (sN A 0 9) - nI w.2.1 then nI (sN A 0 9) - nI w.2.1 else sT A 0 16) → Q I34 := by
      intro I34 e34
      have h34 := h29.putT (j := 0) (i := 16) (by decide) e34
      refine hQ I34 ⟨Y, ?_⟩ (f29.tr (RF.u e34))
      rw [recv_some hk hw]
      exact h34
    refine ⟨fun z => ⟨v10, v10, fun I34 e34 => fin I34 ?_⟩, fun z => ⟨v10, fun I36 e36 => fin I36 ?_⟩⟩
    · rw [if_neg (Int32.not_lt.mpr z)]
      exact e34
    · rw [if_pos (Int32.not_le.mp z)]
      exact e36
