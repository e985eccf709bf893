theorem r_canBreak {I : MI} {A : St} {Y : List (Nat × Nat × Nat × Nat)} {c : Nat} {Q : Int32 → Prop} (h : RR I A Y) (hs : SetOk A) (hd : DynOk A) (hc : vc A c) (hQ : canBr A c → Q 1) (hQ0 : ¬ canBr A c → Q 0) : wp_X10_canBreak I (nI (c / 4)) (nI (c % 4)) Q := by
  have hc12 := vc_lt hs hc
  have hh := (hd.1 c (by omega)).1
  have hu := (hs.2.2.2.2.1 c (by omega)).1
  have g7 : I 337 (32 + (3 * (c / 4) + c % 4)) = nI (sN A 7 c) := h.n (rdc (j := 7) (by omega) (by omega) hc12.1 hc12.2)
  have g11 : I 337 (74 + (3 * (c / 4) + c % 4)) = nI (sN A 11 c) := h.n (rdc (j := 11) (by omega) (by omega) hc12.1 hc12.2)
  unfold wp_X10_canBreak
  refine r_cellOf ?_
  rw [show (74 : Int32) = nI 74 from rfl, nI_add, ix_nI (by omega), g11]
  refine ⟨vp_in_nI (by omega) (by omega), r_cellOf ?_⟩
  rw [show (32 : Int32) = nI 32 from rfl, nI_add, ix_nI (by omega), g7]
  refine ⟨vp_in_nI (by omega) (by omega), pk_le (sN A 7 c) (sN A 11 c) (fun z => hQ0 ?_) (fun z => hQ z)⟩
  unfold canBr
  omega
theorem r_breaksOne {I : MI} {A : St} {c : Nat} {Q : Int32 → MI → Prop} (h : ∃ Y, RR I A Y) (hs : SetOk A) (hd : DynOk A) (hv : vc A c) (hc : canBr A c) (hQ : ∀ I', (∃ Y, RR I' (brk A c) Y) → RF I I' → Q (nI (sN A 0 10)) I') : wp_X10_breaksOne I (nI (c / 4)) (nI (c % 4)) Q := by
  obtain ⟨Y, h⟩ := h
  have hc12 := vc_lt hs hv
  have hhand := hand_le hd (c := c) (by omega)
  obtain ⟨a1, a2, a3, a4, a5, a6, a7, a8⟩ := brkA_ok hs hd hv hc
  have hw72 := wlen72 a2 a1
  have hr10 := rdc (j := 10) (by omega) (by omega) hc12.1 hc12.2
  have hr11 := rdc (j := 11) (by omega) (by omega) hc12.1 hc12.2
  have c62 : (62 : Int32) + nI (3 * (c / 4) + c % 4) = nI (62 + (3 * (c / 4) + c % 4)) := by rw [show (62 : Int32) = nI 62 from rfl, nI_add]
  have c74 : (74 : Int32) + nI (3 * (c / 4) + c % 4) = nI (74 + (3 * (c / 4) + c % 4)) := by rw [show (74 : Int32) = nI 74 from rfl, nI_add]
  have i14 : ix 14 = 14 := by decide
  have i5 : ix 5 = 5 := by decide
  have hYl : Y.length = (sY A).length := h.2.2.2.2.2.2.1.length_eq
  have hyl := hd.yl
  have jn : ∀ I1, RR I1 (brkA A c) Y → RF I I1 → jn_X10_breaksOne_137 I1 (nI (c / 4)) (nI (c % 4)) Q := by
    intro I1 h1 f1
    have hp3 : c % 4 < 3 := hc12.2
    have hm9 := (hs.2.1 (c % 4) (by omega)).2.1
    have g3 : I1 337 (23 + c % 4) = nI (sN A 3 (c % 4)) := by
      rw [show I1 337 (23 + c % 4) = nI (sN (brkA A c) 3 (c % 4)) from h1.n (j := 3) (i := c % 4) (by unfold rd; simp; omega), a3.2.1 3 (by omega) (by omega)]
    have g6 : I1 337 (29 + c / 4) = nI (sN A 6 (c / 4)) := by
      rw [show I1 337 (29 + c / 4) = nI (sN (brkA A c) 6 (c / 4)) from h1.n (j := 6) (i := c / 4) (by unfold rd; simp; omega), a3.2.1 6 (by omega) (by omega)]
    unfold jn_X10_breaksOne_137
    rw [show (23 : Int32) = nI 23 from rfl, nI_add, ix_nI (by omega), g3, show (29 : Int32) = nI 29 from rfl, nI_add, ix_nI (by omega), g6]
    refine ⟨vp_in_nI (by omega) (by omega), pk_le (sN A 3 (c % 4)) 0 (fun z => ⟨vp_in_nI (by omega) (by omega), ?_⟩) (fun z => ⟨vp_in_nI (by omega) (by omega), ?_⟩)⟩
    · have z : sN A 3 (c % 4) = 0 := by omega
      rw [show (1 : Int32) = nI 1 from rfl]
      refine r_begins (k := 1) (c := c) h1 (by omega) (by simp) (fun I27 h27 f27 => ?_)
      rw [show ix 15 = 15 from by decide, i5]
      have e15 : I27 337 15 = nI (sC A).length := by
        rw [h27.2.1.2.1, begW_C, a7]
      have hcl := a1.cl
      rw [a7] at hcl
      have hz : (412 : Int32) + nI 3 * nI (sC A).length = nI (412 + 3 * (sC A).length) := by
        rw [pk_mul, show (412 : Int32) = nI 412 from rfl, nI_add]
      rw [e15, show (3 : Int32) = nI 3 from rfl, hz, nI_add, show (2 : Int32) = nI 2 from rfl, nI_add, ix_nI (by omega), ix_nI (by omega), ix_nI (by omega)]
      refine ⟨v15, vp_in_nI (by omega) (by omega), fun I30 e30 => ⟨vp_in_nI (by omega) (by omega), fun I32 e32 => ⟨v5, vp_in_nI (by omega) (by omega), fun I35 e35 => ⟨v15, v15, fun I38 e38 => ?_⟩⟩⟩⟩
      have g5 : I32 337 5 = nI (sN A 0 9) := by
        rw [e32, u2_n2 (by omega), e30, u2_n2 (by omega), show I27 337 5 = nI (sN (begW (brkA A c) 1 c (sN A 6 (c / 4))) 0 9) from h27.n (j := 0) (i := 9) (by decide), begW_9, a3.1]
      rw [g5] at e35
      have g15 : I35 337 15 = nI (sC A).length := by rw [e35, u2_n2 (by omega), e32, u2_n2 (by omega), e30, u2_n2 (by omega)]; exact e15
      rw [g15, nI_add] at e38
      have h38 : RR I38 (brkC A c) (Y ++ [(1, sN (brkA A c) 0 10, c, sN (brkA A c) 0 9 + sN A 6 (c / 4))]) := by
        refine h27.putC (fun s hs hs2 => ?_) ?_ ?_ ?_
        · rw [e38, u2_n2 hs2, e35, u2_n2 (by omega), e32, u2_n2 (by omega), e30, u2_n2 (by omega)]
        · rw [e38, u2_s, List.length_append, List.length_singleton]
        · have hl : lst (I27 337) 412 3 (sC A) gC := by
            have := h27.2.2.2.1
            rw [begW_C, a7] at this
            exact this
          refine hl.app (fun s h1 h2 => ?_) (fun q hq => ?_)
          · rw [e38, u2_n2 (by omega), e35, u2_n2 (by omega), e32, u2_n2 (by omega), e30, u2_n2 (by omega)]
          · rw [e38, u2_n2 (by omega)]
            obtain rfl | rfl | rfl : q = 0 ∨ q = 1 ∨ q = 2 := by omega
            · rw [e35, u2_n2 (by omega), e32, u2_n2 (by omega), e30, Nat.add_zero, u2_s]; rfl
            · rw [e35, u2_n2 (by omega), e32, u2_s]; rfl
            · rw [e35, u2_s]; rfl
        · rw [List.length_append, List.length_singleton]; omega
      obtain ⟨b1, b2, b3, b4, b5, b6⟩ := brkC_ok hs hd hv hc
      have f38 : RF I27 I38 := fun a ha => by rw [e38, u2_ne ha, e35, u2_ne ha, e32, u2_ne ha, e30, u2_ne ha]
      rw [a4]
      refine r_answers ⟨_, h38⟩ b2 b1 hp3 (fun I39 h39 f39 => hQ I39 ?_ (((f1.tr f27).tr f38).tr f39))
      rw [brk_send z]
      exact h39
    · have z : ¬ sN A 3 (c % 4) = 0 := by omega
      rw [show (0 : Int32) = nI 0 from rfl]
      refine r_begins (k := 0) (c := c) h1 (by omega) (by simp) (fun I42 h42 f42 => ?_)
      rw [a4]
      refine hQ I42 ?_ (f1.tr f42)
      rw [brk_mend z]
      exact ⟨_, h42⟩
  unfold wp_X10_breaksOne
  refine r_cellOf ?_
  rw [c62, c74, ix_nI (by omega), ix_nI (by omega), show ix 6 = 6 from by decide]
  refine ⟨v6, v6, fun I4 e4 => ⟨vp_in_nI (by omega) (by omega), ?_⟩⟩
  have g6 : I 337 6 = sT A 0 12 := h.t (j := 0) (i := 12) (by decide)
  rw [g6] at e4
  have h4 := h.putT (j := 0) (i := 12) (by decide) e4
  have gh : I4 337 (62 + (3 * (c / 4) + c % 4)) = nI (sN A 10 c) := h4.n hr10
  rw [gh]
  refine pk_le (sN A 10 c) 0 (fun z => ?_) (fun z => ?_)
  · have z : sN A 10 c = 0 := by omega
    have e14 : I4 337 14 = nI (sW A).length := h4.2.1.1
    have hw : (sW A).length + 1 ≤ 72 := by
      have : sW (brkA A c) = sW A ++ [(c, sN A 0 9, 0)] := by unfold brkA; rw [if_pos z]
      rw [this, List.length_append, List.length_singleton] at hw72
      exact hw72
    have hz : (92 : Int32) + nI 4 * nI (sW A).length = nI (92 + 4 * (sW A).length) := by
      rw [pk_mul, show (92 : Int32) = nI 92 from rfl, nI_add]
    rw [i14, i5, e14, show (4 : Int32) = nI 4 from rfl, hz, nI_1, show (2 : Int32) = nI 2 from rfl, show (3 : Int32) = nI 3 from rfl, nI_add, nI_add, ix_nI (by omega), ix_nI (by omega), ix_nI (by omega), ix_nI (by omega)]
    refine ⟨v14, vp_in_nI (by omega) (by omega), fun I9 e9 => ⟨vp_in_nI (by omega) (by omega), fun I11 e11 => ⟨v5, vp_in_nI (by omega) (by omega), fun I14 e14' => ⟨vp_in_nI (by omega) (by omega), fun I16 e16 => ⟨v14, v14, fun I19 e19 => ⟨vp_in_nI (by omega) (by omega), vp_in_nI (by omega) (by omega), fun I22 e22 => ?_⟩⟩⟩⟩⟩⟩
    have g5 : I11 337 5 = nI (sN A 0 9) := by
      rw [e11, u2_n2 (by omega), e9, u2_n2 (by omega)]
      exact h4.n (j := 0) (i := 9) (by decide)
    rw [g5] at e14'
    have out : ∀ s, (s < 92 ∨ 412 ≤ s) → I16 337 s = I4 337 s := fun s hs => by
      rw [e16, u2_n2 (by omega), e14', u2_n2 (by omega), e11, u2_n2 (by omega), e9, u2_n2 (by omega)]
    have g14 : I16 337 14 = nI (sW A).length := by rw [out _ (by omega)]; exact e14
    rw [g14, nI_1] at e19
    have g11 : I19 337 (74 + (3 * (c / 4) + c % 4)) = nI (sN A 11 c) := by
      rw [e19, u2_n2 (by omega), out _ (by omega)]
      exact h4.n hr11
    rw [g11, nI_1] at e22
    have h19 : RR I19 (setW (setT A 0 12 (sT A 0 12 + 1)) (sW A ++ [(c, sN A 0 9, 0)])) Y := by
      refine h4.putW (fun s hs hs2 => ?_) ?_ ?_ ?_
      · rw [e19, u2_n2 hs2, out s hs]
      · rw [e19, u2_s, List.length_append, List.length_singleton]
      · refine h4.2.2.1.app (fun s h1 h2 => ?_) (fun q hq => ?_)
        · have h2 : s < 92 + 4 * (sW A).length := h2
          rw [e19, u2_n2 (by omega), e16, u2_n2 (by omega), e14', u2_n2 (by omega), e11, u2_n2 (by omega), e9, u2_n2 (by omega)]
        · show I19 337 (92 + 4 * (sW A).length + q) = _
          rw [e19, u2_n2 (by omega)]
          obtain rfl | rfl | rfl | rfl : q = 0 ∨ q = 1 ∨ q = 2 ∨ q = 3 := by omega
          · rw [e16, u2_n2 (by omega), e14', u2_n2 (by omega), e11, u2_n2 (by omega), e9, Nat.add_zero, u2_s]; rfl
          · rw [e16, u2_n2 (by omega), e14', u2_n2 (by omega), e11, u2_s]; rfl
          · rw [e16, u2_n2 (by omega), e14', u2_s]; rfl
          · rw [e16, u2_s]; rfl
      · rw [List.length_append, List.length_singleton]; exact hw
    have h22 := h19.putN hr11 e22
    refine jn I22 ?_ (fun a ha => by rw [e22, u2_ne ha, e19, u2_ne ha, e16, u2_ne ha, e14', u2_ne ha, e11, u2_ne ha, e9, u2_ne ha, e4, u2_ne ha])
    unfold brkA
    rw [if_pos z]
    exact h22
  · have z : ¬ sN A 10 c = 0 := by omega
    refine ⟨vp_in_nI (by omega) (by omega), vp_in_nI (by omega) (by omega), fun I45 e45 => ⟨v7, v7, fun I48 e48 => ?_⟩⟩
    have e45' : I45 = u2 I4 337 (ri 10 c) (nI (sN A 10 c - 1)) := by
      rw [e45]
      show u2 I4 337 (62 + (3 * (c / 4) + c % 4)) _ = u2 I4 337 (62 + (3 * (c / 4) + c % 4)) _
      congr 1
      obtain ⟨r, hr⟩ : ∃ r, sN A 10 c = r + 1 := ⟨sN A 10 c - 1, by omega⟩
      rw [hr, nI_pred]
      rfl
    have h45 := h4.putN hr10 e45'
    have g7 : I45 337 7 = sT A 0 13 := by
      rw [show I45 337 7 = _ from h45.t (j := 0) (i := 13) (by decide)]
      simp [sT, setT, u2_at]
    rw [show ix 7 = 7 from by decide, g7] at e48
    have h48 := h45.putT (j := 0) (i := 13) (by decide) e48
    refine jn I48 ?_ (fun a ha => by rw [e48, u2_ne ha, e45, u2_ne ha, e4, u2_ne ha])
    unfold brkA
    rw [if_neg z]
    exact h48
theorem r_today {I : MI} {A : St} {Y : List (Nat × Nat × Nat × Nat)} {Q : Int32 → Prop} (h : RR I A Y) (hs : SetOk A) (hd : DynOk A) (hb : sN A 0 10 < 2 ^ 30) (hy : YD A (sN A 0 9)) (hQ0 : (∀ y ∈ sY A, sN A 0 9 < y.2.2.2) → Q (-1)) (hQ : ∀ (k : Nat) (y : Nat × Nat × Nat × Nat) (ys : List (Nat × Nat × Nat × Nat)), sY A = y :: ys → y.2.2.2 = sN A 0 9 → Y[k]? = some y → Q (nI k)) : wp_X10_today I Q := by
  have e16 : I 337 16 = nI Y.length := h.2.1.2.2.1
  have e5 : I 337 5 = nI (sN A 0 9) := h.n (j := 0) (i := 9) (by decide)
  have hl := h.2.2.2.2.2.2.2.2.2.1
  have hlst := h.2.2.2.2.1
  have hp := h.2.2.2.2.2.2.1
  have i16 : ix 16 = 16 := by decide
  have hwf := hd.wf hs hb
  have h9 := hd.2.2.2.2.2.2.2.2.2.2.2.2.1
  have hz : ∀ i, (1012 : Int32) + 5 * nI i = nI (1012 + 5 * i) := fun i => by
    rw [show (5 : Int32) = nI 5 from rfl, pk_mul, show (1012 : Int32) = nI 1012 from rfl, nI_add]
  have yb : ∀ y ∈ Y, y.2.1 < 2 ^ 30 ∧ y.2.2.2 < 2 ^ 19 ∧ sN A 0 9 ≤ y.2.2.2 := fun y hy' => by
    have hm := hp.mem_iff.mp hy'
    have := hwf.1 y hm
    have h1 := hd.2.2.2.2.2.2.2.2.2.2.2.1 y hm
    exact ⟨by omega, this.2.2.2, hy y hm⟩
  -- the end: a least one among those that come today
  have fin1 : ∀ (k : Nat) (y : Nat × Nat × Nat × Nat), Y[k]? = some y → y.2.2.2 = sN A 0 9 → (∀ z ∈ Y, z.2.2.2 = sN A 0 9 → y.2.1 ≤ z.2.1) → Q (nI k) := by
    intro k y hk hday hmin
    have hm := hp.mem_iff.mp (List.mem_of_getElem? hk)
    have hsort := hd.2.2.2.2.2.2.2.2.2.2.1
    cases hY : sY A with
    | nil => rw [hY] at hm; cases hm
    | cons y0 ys =>
      have h0m : y0 ∈ sY A := by rw [hY]; exact List.mem_cons_self
      have h0d := hy y0 h0m
      rw [hY] at hm hsort
      rcases List.mem_cons.mp hm with rfl | hm
      · exact hQ k _ ys hY hday hk
      · have hlt := (List.pairwise_cons.mp hsort).1 y hm
        unfold ltY at hlt
        have h0e : y0.2.2.2 = sN A 0 9 := by omega
        have := hmin y0 (hp.mem_iff.mpr h0m) h0e
        omega
  have key : ∀ (n i : Nat) (b : Option Nat) (v1 : Int32), i + n = Y.length → (b = none → v1 = -1 ∧ ∀ z ∈ Y.take i, z.2.2.2 ≠ sN A 0 9) → (∀ k, b = some k → v1 = nI k ∧ ∃ y, Y[k]? = some y ∧ y.2.2.2 = sN A 0 9 ∧ ∀ z ∈ Y.take i, z.2.2.2 = sN A 0 9 → y.2.1 ≤ z.2.1) → lp_X10_today_4 I Q (n + 1) v1 (nI i) := by
    intro n
    induction n with
    | zero =>
      intro i b v1 hi h0 h1
      unfold lp_X10_today_4
      rw [i16, e16]
      refine ⟨v16, fun _ => ?_, fun z => absurd (nI_le (by omega) (by omega)) z⟩
      rw [List.take_of_length_le (by omega)] at h0 h1
      cases b with
      | none =>
        obtain ⟨g1, g2⟩ := h0 rfl
        rw [g1]
        refine hQ0 (fun y hy' => ?_)
        have := g2 y (hp.mem_iff.mpr hy')
        have := hy y hy'
        omega
      | some k =>
        obtain ⟨g1, y, g2, g3, g4⟩ := h1 k rfl
        rw [g1]
        exact fin1 k y g2 g3 g4
    | succ n ih =>
      intro i b v1 hi h0 h1
      have hil : i < Y.length := by omega
      have hg : Y[i]? = some Y[i] := List.getElem?_eq_getElem hil
      have x1 : I 337 (1012 + 5 * i + 1) = nI Y[i].2.1 := hlst i _ hg 1 (by omega)
      have x4 : I 337 (1012 + 5 * i + 4) = nI Y[i].2.2.2 := hlst i _ hg 4 (by omega)
      have hyb := yb _ (List.getElem_mem hil)
      have htk : Y.take (i + 1) = Y.take i ++ [Y[i]] := by rw [List.take_succ_eq_append_getElem hil]
      unfold lp_X10_today_4
      rw [i16, e16, hz i, show ix 5 = 5 from by decide, e5, show (4 : Int32) = nI 4 from rfl, nI_add, ix_nI (n := 1012 + 5 * i + 4) (by omega), x4]
      refine ⟨v16, fun z => absurd z (nI_ge (by omega) (by omega)), fun _ => ⟨vp_in_nI (by omega) (by omega), v5, ?_⟩⟩
      refine (pk_eq Y[i].2.2.2 (sN A 0 9) (fun z => ?_) (fun z => ?_)).symm
      · -- it comes today
        have take : (∀ z ∈ Y.take i, z.2.2.2 = sN A 0 9 → Y[i].2.1 ≤ z.2.1) → jn_X10_today_74 (nI i) (fun x11 x12 => (lp_X10_today_4 I Q (n + 1) x11 x12)) := by
          intro hmin
          unfold jn_X10_today_74 jn_X10_today_76
          rw [nI_1]
          refine ih (i + 1) (some i) (nI i) (by omega) (fun g => by cases g) (fun k g => by
            cases g
            refine ⟨rfl, Y[i], hg, z, fun q hq hq2 => ?_⟩
            rw [htk] at hq
            rcases List.mem_append.mp hq with hq | hq
            · exact hmin q hq hq2
            · have : q = Y[i] := by simpa using hq
              rw [this]
              exact Nat.le_refl _)
        cases b with
        | none =>
          obtain ⟨g1, g2⟩ := h0 rfl
          exact ⟨fun _ => take (fun q hq hq2 => absurd hq2 (g2 q hq)), fun w => absurd g1 w⟩
        | some k =>
          obtain ⟨g1, y, g2, g3, g4⟩ := h1 k rfl
          have hkl := lt_of_get g2
          have yk : I 337 (1012 + 5 * k + 1) = nI y.2.1 := hlst k _ g2 1 (by omega)
          have hyk := yb y (List.mem_of_getElem? g2)
          have hne : ¬ v1 = -1 := fun g => by
            rw [g1] at g
            have := nI_pos' (n := k) (by omega)
            rw [g] at this
            exact absurd this (by decide)
          refine ⟨fun w => absurd w hne, fun _ => ?_⟩
          rw [g1, hz k, nI_1, nI_1, ix_nI (by omega), ix_nI (by omega), yk, x1]
          refine ⟨vp_in_nI (by omega) (by omega), vp_in_nI (by omega) (by omega), pk_le y.2.1 Y[i].2.1 (fun w => ?_) (fun w => take (fun q hq hq2 => ?_))⟩
          · unfold jn_X10_today_76
            rw [nI_1]
            refine ih (i + 1) (some k) (nI k) (by omega) (fun g => by cases g) (fun k' g => by
              cases g
              refine ⟨rfl, y, g2, g3, fun q hq hq2 => ?_⟩
              rw [htk] at hq
              rcases List.mem_append.mp hq with hq | hq
              · exact g4 q hq hq2
              · have : q = Y[i] := by simpa using hq
                rw [this]
                exact w)
          · have := g4 q hq hq2
            omega
      · unfold jn_X10_today_76
        rw [nI_1]
        refine ih (i + 1) b v1 (by omega) (fun g => ⟨(h0 g).1, fun q hq => ?_⟩) (fun k g => ?_)
        · rw [htk] at hq
          rcases List.mem_append.mp hq with hq | hq
          · exact (h0 g).2 q hq
          · have : q = Y[i] := by simpa using hq
            rw [this]
            exact z
        · obtain ⟨g1, y, g2, g3, g4⟩ := h1 k g
          refine ⟨g1, y, g2, g3, fun q hq hq2 => ?_⟩
          rw [htk] at hq
          rcases List.mem_append.mp hq with hq | hq
          · exact g4 q hq hq2
          · have : q = Y[i] := by simpa using hq
            rw [this] at hq2
            exact absurd hq2 z
  unfold wp_X10_today
  refine ⟨Y.length + 1, ?_⟩
  rw [← nI_0]
  exact key Y.length 0 none (-1) (by omega) (fun _ => ⟨rfl, fun z hz => by simp at hz⟩) (fun k g => by cases g)
