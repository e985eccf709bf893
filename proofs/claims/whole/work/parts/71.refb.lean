theorem v0 : vp_in 0 2212 := vp_in_nI (n := 0) (by omega) (by omega)
theorem v1 : vp_in 1 2212 := vp_in_nI (n := 1) (by omega) (by omega)
theorem v2 : vp_in 2 2212 := vp_in_nI (n := 2) (by omega) (by omega)
theorem v3 : vp_in 3 2212 := vp_in_nI (n := 3) (by omega) (by omega)
theorem v4 : vp_in 4 2212 := vp_in_nI (n := 4) (by omega) (by omega)
theorem v5 : vp_in 5 2212 := vp_in_nI (n := 5) (by omega) (by omega)
theorem v6 : vp_in 6 2212 := vp_in_nI (n := 6) (by omega) (by omega)
theorem v7 : vp_in 7 2212 := vp_in_nI (n := 7) (by omega) (by omega)
theorem v8 : vp_in 8 2212 := vp_in_nI (n := 8) (by omega) (by omega)
theorem v9 : vp_in 9 2212 := vp_in_nI (n := 9) (by omega) (by omega)
theorem v10 : vp_in 10 2212 := vp_in_nI (n := 10) (by omega) (by omega)
theorem v11 : vp_in 11 2212 := vp_in_nI (n := 11) (by omega) (by omega)
theorem v12 : vp_in 12 2212 := vp_in_nI (n := 12) (by omega) (by omega)
theorem v13 : vp_in 13 2212 := vp_in_nI (n := 13) (by omega) (by omega)
theorem v14 : vp_in 14 2212 := vp_in_nI (n := 14) (by omega) (by omega)
theorem v15 : vp_in 15 2212 := vp_in_nI (n := 15) (by omega) (by omega)
theorem v16 : vp_in 16 2212 := vp_in_nI (n := 16) (by omega) (by omega)
theorem v17 : vp_in 17 2212 := vp_in_nI (n := 17) (by omega) (by omega)
theorem v2012 : vp_in 2012 2212 := vp_in_nI (n := 2012) (by omega) (by omega)
section RB
variable {I : MI} {A : St} {Y : List (Nat × Nat × Nat × Nat)}
theorem r_begins {k c d : Nat} {v : Int32} {Q : Int32 → MI → Prop} (h : RR I A Y) (hl : Y.length < 190) (hv : v = if k = 2 then -2 else nI (c / 4)) (hQ : ∀ I', RR I' (begW A k c d) (Y ++ [(k, sN A 0 10, c, sN A 0 9 + d)]) → RF I I' → Q (nI (sN A 0 10)) I') : wp_X10_begins I (nI k) (nI (c % 4)) v (nI d) Q := by
  have e16 : I 337 16 = nI Y.length := h.2.1.2.2.1
  have e13 : I 337 13 = nI (sN A 0 10) := h.n (j := 0) (i := 10) (by decide)
  have e5 : I 337 5 = nI (sN A 0 9) := h.n (j := 0) (i := 9) (by decide)
  have i16 : ix 16 = 16 := by decide
  have i13 : ix 13 = 13 := by decide
  have i5 : ix 5 = 5 := by decide
  have hin : ∀ q, q < 5 → vp_in (nI (1012 + 5 * Y.length + q)) 2212 := fun q hq => vp_in_nI (by omega) (by omega)
  have hz : (1012 : Int32) + 5 * nI Y.length = nI (1012 + 5 * Y.length) := by
    rw [show (5 : Int32) = nI 5 from rfl, pk_mul, show (1012 : Int32) = nI 1012 from rfl, nI_add]
  unfold wp_X10_begins
  rw [i16, i13, i5, e16, hz, nI_1, show (2 : Int32) = nI 2 from rfl, show (3 : Int32) = nI 3 from rfl, show (4 : Int32) = nI 4 from rfl, nI_add, nI_add, nI_add, ix_nI (by omega), ix_nI (by omega), ix_nI (by omega), ix_nI (by omega), ix_nI (by omega)]
  refine ⟨v16, hin 0 (by omega), fun I3 h3 => ⟨v13, hin 1 (by omega), fun I6 h6 => ⟨hin 2 (by omega), fun I8 h8 => ⟨hin 3 (by omega), fun I10 h10 => ⟨v5, hin 4 (by omega), fun I13 h13 => ⟨v16, v16, fun I16 h16 => ⟨v13, v13, fun I19 h19 => ⟨v13, ?_⟩⟩⟩⟩⟩⟩⟩⟩
  have g1 : I3 337 13 = nI (sN A 0 10) := by rw [h3, u2_n2 (by omega)]; exact e13
  rw [g1] at h6
  have g2 : I10 337 5 = nI (sN A 0 9) := by rw [h10, u2_n2 (by omega), h8, u2_n2 (by omega), h6, u2_n2 (by omega), h3, u2_n2 (by omega)]; exact e5
  rw [g2, nI_add] at h13
  have g3 : I13 337 16 = nI Y.length := by rw [h13, u2_n2 (by omega), h10, u2_n2 (by omega), h8, u2_n2 (by omega), h6, u2_n2 (by omega), h3, u2_n2 (by omega)]; exact e16
  rw [g3, nI_1] at h16
  have out13 : ∀ s, s < 1012 → I13 337 s = I 337 s := fun s hs => by rw [h13, u2_n2 (by omega), h10, u2_n2 (by omega), h8, u2_n2 (by omega), h6, u2_n2 (by omega), h3, u2_n2 (by omega)]
  have g4 : I16 337 13 = nI (sN A 0 10) := by rw [h16, u2_n2 (by omega), out13 _ (by omega)]; exact e13
  rw [g4, nI_1] at h19
  have g5 : I19 337 13 = nI (sN A 0 10 + 1) := by rw [h19, u2_s]
  rw [g5, nI_pred]
  -- the row behind the number's change
  have hY : RR I16 (setY A (insY (k, sN A 0 10, c, sN A 0 9 + d) (sY A))) (Y ++ [(k, sN A 0 10, c, sN A 0 9 + d)]) := by
    refine h.putY (fun s hs h16' => ?_) ?_ (h.2.2.2.2.1.app (fun s h1 h2 => ?_) (fun q hq => ?_)) ?_ ?_
    · rw [h16, u2_n2 h16', h13, u2_n2 (by omega), h10, u2_n2 (by omega), h8, u2_n2 (by omega), h6, u2_n2 (by omega), h3, u2_n2 (by omega)]
    · rw [h16, u2_s, List.length_append, List.length_singleton]
    · rw [h16, u2_n2 (by omega), h13, u2_n2 (by omega), h10, u2_n2 (by omega), h8, u2_n2 (by omega), h6, u2_n2 (by omega), h3, u2_n2 (by omega)]
    · rw [h16, u2_n2 (by omega)]
      obtain rfl | rfl | rfl | rfl | rfl : q = 0 ∨ q = 1 ∨ q = 2 ∨ q = 3 ∨ q = 4 := by omega
      · rw [h13, u2_n2 (by omega), h10, u2_n2 (by omega), h8, u2_n2 (by omega), h6, u2_n2 (by omega), h3, Nat.add_zero, u2_s]; rfl
      · rw [h13, u2_n2 (by omega), h10, u2_n2 (by omega), h8, u2_n2 (by omega), h6, u2_s]; rfl
      · rw [h13, u2_n2 (by omega), h10, u2_n2 (by omega), h8, u2_s]; rfl
      · rw [h13, u2_n2 (by omega), h10, u2_s, hv]; rfl
      · rw [h13, u2_s]; rfl
    · have p1 : (Y ++ [(k, sN A 0 10, c, sN A 0 9 + d)]).Perm ((k, sN A 0 10, c, sN A 0 9 + d) :: Y) := List.perm_append_singleton _ _
      exact (p1.trans (h.2.2.2.2.2.2.1.cons _)).trans (insY_perm _).symm
    · rw [List.length_append, List.length_singleton]; omega
  have hN := hY.putN (j := 0) (i := 10) (v := sN A 0 10 + 1) (by decide) h19
  refine hQ I19 ?_ (fun a ha => by rw [h19, u2_ne ha, h16, u2_ne ha, h13, u2_ne ha, h10, u2_ne ha, h8, u2_ne ha, h6, u2_ne ha, h3, u2_ne ha])
  unfold begW
  by_cases hk : k = 2
  · rw [if_pos hk]
    exact hN.skip11
  · rw [if_neg hk]
    exact hN
theorem r_wantsOf {c : Nat} {Q : Int32 → Prop} (h : RR I A Y) (hw : ∀ w ∈ sW A, w.1 < 16) (hc : c < 16) (hQ : Q (nI ((sW A).countP (fun w => w.1 == c)))) : wp_X10_wantsOf I (nI (c / 4)) (nI (c % 4)) Q := by
  have e14 : I 337 14 = nI (sW A).length := h.2.1.1
  have hl := h.2.2.2.2.2.2.2.1
  have hlst := h.2.2.1
  have i14 : ix 14 = 14 := by decide
  have key : ∀ (n i m : Nat), i + n = (sW A).length → Q (nI (m + ((sW A).drop i).countP (fun w => w.1 == c))) → lp_X10_wantsOf_5 I (nI (c / 4)) (nI (c % 4)) Q (n + 1) (nI m) (nI i) := by
    intro n
    induction n with
    | zero =>
      intro i m hi hq
      unfold lp_X10_wantsOf_5
      rw [i14, e14]
      refine ⟨v14, fun _ => ?_, fun z => absurd (nI_le (by omega) (by omega)) z⟩
      rw [List.drop_of_length_le (by omega)] at hq
      exact hq
    | succ n ih =>
      intro i m hi hq
      have hil : i < (sW A).length := by omega
      have hmem := List.getElem_mem hil
      have hw16 := hw _ hmem
      have hz : (92 : Int32) + 4 * nI i = nI (92 + 4 * i) := by
        rw [show (4 : Int32) = nI 4 from rfl, pk_mul, show (92 : Int32) = nI 92 from rfl, nI_add]
      have hg : (sW A)[i]? = some (sW A)[i] := List.getElem?_eq_getElem hil
      have x0 : I 337 (92 + 4 * i) = nI ((sW A)[i].1 / 4) := hlst i _ hg 0 (by omega)
      have x1 : I 337 (92 + 4 * i + 1) = nI ((sW A)[i].1 % 4) := hlst i _ hg 1 (by omega)
      rw [List.drop_eq_getElem_cons hil, List.countP_cons] at hq
      unfold lp_X10_wantsOf_5
      rw [i14, e14, hz, nI_1, ix_nI (by omega), ix_nI (by omega), x0, x1]
      have no : ¬ (sW A)[i].1 = c → jn_X10_wantsOf_56 (nI i) (nI m) (fun x7 x8 => (lp_X10_wantsOf_5 I (nI (c / 4)) (nI (c % 4)) Q (n + 1) x7 x8)) := by
        intro z
        unfold jn_X10_wantsOf_56 jn_X10_wantsOf_57
        have : ((sW A)[i].1 == c) = false := by simpa using z
        rw [this] at hq
        rw [show (0 : Int32) = nI 0 from rfl, nI_add, nI_1]
        exact ih (i + 1) m (by omega) (by simpa using hq)
      refine ⟨v14, fun z => absurd z (nI_ge (by omega) (by omega)), fun _ => ⟨vp_in_nI (by omega) (by omega), fun z => no (fun q => z (by rw [q])), fun z => ⟨vp_in_nI (by omega) (by omega), fun w => no (fun q => w (by rw [q])), fun w => ?_⟩⟩⟩
      have z := (nI_eq (by omega) (by omega)).mp z
      have w := (nI_eq (by omega) (by omega)).mp w
      have : ((sW A)[i].1 == c) = true := by simp; omega
      rw [this] at hq
      unfold jn_X10_wantsOf_57
      rw [nI_1, nI_1]
      refine ih (i + 1) (m + 1) (by omega) ?_
      rw [show m + 1 + ((sW A).drop (i + 1)).countP (fun w => w.1 == c) = m + (((sW A).drop (i + 1)).countP (fun w => w.1 == c) + 1) by omega]
      simpa using hq
  unfold wp_X10_wantsOf
  refine ⟨(sW A).length + 1, ?_⟩
  rw [← nI_0]
  exact key (sW A).length 0 0 (by omega) (by simpa using hQ)
theorem r_nextCall {p : Nat} {Q : Int32 → Prop} (h : RR I A Y) (hs : SetOk A) (hd : DynOk A) (hp : p < 4) (hQ : ∀ k, callNext A p = some k → Q (nI k)) (hQ0 : callNext A p = none → Q (-1)) : wp_X10_nextCall I (nI p) Q := by
  have e15 : I 337 15 = nI (sC A).length := h.2.1.2.1
  have e4 : I 337 4 = nI (sN A 1 4) := h.n (j := 1) (i := 4) (by decide)
  have hl := h.2.2.2.2.2.2.2.2.1
  have hlst := h.2.2.2.1
  have i15 : ix 15 = 15 := by decide
  have i4 : ix 4 = 4 := by decide
  have hrule := hs.1.2.2.2.2.2
  have hh : ∀ c, c < 16 → hf A c = (if sN A 1 4 = 0 then 0 else (sW A).countP (fun w => w.1 == c)) ∧ hf A c ≤ 8 := by
    intro c hc
    have h1 := hd.1 c hc
    have h2 := (hs.2.2.2.2.1 c hc).1
    unfold hf
    by_cases hr : sN A 1 4 = 0
    · rw [if_pos hr, if_pos hr]; exact ⟨rfl, by omega⟩
    · rw [if_neg hr, if_neg hr]; exact ⟨h1.2, by omega⟩
  have hC : ∀ c ∈ sC A, c.1 < 16 := fun c hc => by have := vc_lt hs (hd.2.2.2.2.1 c hc).1; omega
  have hW : ∀ w ∈ sW A, w.1 < 16 := fun c hc => by have := vc_lt hs (hd.2.2.2.1 c hc).1; omega
  have key : ∀ (n i : Nat) (b : Option (Nat × Nat)) (v2 v3 : Int32), i + n = (sC A).length → (b = none → v2 = -1) → (∀ k m, b = some (k, m) → k < 200 ∧ m ≤ 8 ∧ v2 = nI k ∧ v3 = nI m) → (∀ k m, nxC (hf A) p ((sC A).drop i) i b = some (k, m) → Q (nI k)) → (nxC (hf A) p ((sC A).drop i) i b = none → Q (-1)) → lp_X10_nextCall_7 I (nI p) Q (n + 1) v2 v3 (nI i) := by
    intro n
    induction n with
    | zero =>
      intro i b v2 v3 hi hb0 hb1 hq hq0
      unfold lp_X10_nextCall_7
      rw [i15, e15]
      refine ⟨v15, fun _ => ?_, fun z => absurd (nI_le (by omega) (by omega)) z⟩
      rw [List.drop_of_length_le (by omega)] at hq hq0
      cases b with
      | none => rw [hb0 rfl]; exact hq0 rfl
      | some km =>
        obtain ⟨k, m⟩ := km
        rw [(hb1 k m rfl).2.2.1]
        exact hq k m rfl
    | succ n ih =>
      intro i b v2 v3 hi hb0 hb1 hq hq0
      have hil : i < (sC A).length := by omega
      have hmem := List.getElem_mem hil
      have hc16 := hC _ hmem
      have hz : (412 : Int32) + 3 * nI i = nI (412 + 3 * i) := by
        rw [show (3 : Int32) = nI 3 from rfl, pk_mul, show (412 : Int32) = nI 412 from rfl, nI_add]
      have hg : (sC A)[i]? = some (sC A)[i] := List.getElem?_eq_getElem hil
      have x0 : I 337 (412 + 3 * i) = nI ((sC A)[i].1 / 4) := hlst i _ hg 0 (by omega)
      have x1 : I 337 (412 + 3 * i + 1) = nI ((sC A)[i].1 % 4) := hlst i _ hg 1 (by omega)
      rw [List.drop_eq_getElem_cons hil, nxC_cons] at hq hq0
      unfold lp_X10_nextCall_7
      rw [i15, e15, i4, e4, hz, nI_1, ix_nI (by omega), ix_nI (by omega), x0, x1]
      refine ⟨v15, fun z => absurd z (nI_ge (by omega) (by omega)), fun _ => ⟨vp_in_nI (by omega) (by omega), fun z => ⟨v4, ?_⟩, fun z => ?_⟩⟩
      · have z : (sC A)[i].1 % 4 = p := (nI_eq (by omega) (by omega)).mp z
        rw [if_pos z] at hq hq0
        have hhc := hh _ hc16
        have st : jn_X10_nextCall_72 v2 v3 (nI i) (nI (hf A (sC A)[i].1)) (fun x23 x24 x25 => (lp_X10_nextCall_7 I (nI p) Q (n + 1) x23 x24 x25)) := by
          unfold jn_X10_nextCall_72 jn_X10_nextCall_85 jn_X10_nextCall_91
          rw [nI_1]
          cases b with
          | none =>
            refine ⟨fun _ => ?_, fun g => absurd (hb0 rfl) g⟩
            exact ih (i + 1) _ _ _ (by omega) (fun g => by cases g) (fun k m g => by cases g; exact ⟨by omega, hhc.2, rfl, rfl⟩) hq hq0
          | some km =>
            obtain ⟨k, m⟩ := km
            obtain ⟨g1, g2, g3, g4⟩ := hb1 k m rfl
            have hne : ¬ v2 = -1 := fun g => by
              rw [g3] at g
              have := nI_pos' (n := k) (by omega)
              rw [g] at this
              exact absurd this (by decide)
            refine ⟨fun g => absurd g hne, fun _ => ⟨fun g => ?_, fun g => ?_⟩⟩
            · rw [g4] at g
              have g := (nI_leI (by omega) (by omega)).mp g
              simp only at hq hq0
              rw [if_neg (by omega)] at hq hq0
              exact ih (i + 1) _ _ _ (by omega) (fun g => by cases g) (fun k' m' g' => by cases g'; exact ⟨g1, g2, g3, g4⟩) hq hq0
            · rw [g4] at g
              have g : m < hf A (sC A)[i].1 := by
                rcases Nat.lt_or_ge m (hf A (sC A)[i].1) with q | q
                · exact q
                · exact absurd (nI_le q (by omega)) g
              simp only at hq hq0
              rw [if_pos g] at hq hq0
              exact ih (i + 1) _ _ _ (by omega) (fun g => by cases g) (fun k m g => by cases g; exact ⟨by omega, hhc.2, rfl, rfl⟩) hq hq0
        rw [hhc.1] at st
        refine ⟨fun w => ⟨vp_in_nI (by omega) (by omega), ?_⟩, fun w => ?_⟩
        · have w : ¬ sN A 1 4 = 0 := fun q => w (by rw [q]; rfl)
          rw [if_neg w] at st
          rw [← z]
          refine r_wantsOf h hW hc16 ?_
          rw [z]
          exact st
        · have w : sN A 1 4 = 0 := (nI_eq (b := 0) (by omega) (by omega)).mp w
          rw [if_pos w] at st
          exact st
      · have z : ¬ (sC A)[i].1 % 4 = p := fun q => z (by rw [q])
        rw [if_neg z] at hq hq0
        unfold jn_X10_nextCall_91
        rw [nI_1]
        exact ih (i + 1) b v2 v3 (by omega) hb0 hb1 hq hq0
  unfold wp_X10_nextCall
  refine ⟨(sC A).length + 1, ?_⟩
  rw [← nI_0]
  refine key (sC A).length 0 none (-1) (nI 0) (by omega) (fun _ => rfl) (fun k m g => by cases g) (fun k m g => hQ k ?_) (fun g => hQ0 ?_)
  · unfold callNext
    rw [List.drop_zero] at g
    rw [g]
    rfl
  · unfold callNext
    rw [List.drop_zero] at g
    rw [g]
    rfl
end RB
theorem Perm_len {α : Type} {xs ys : List α} (h : xs.Perm ys) : xs.length = ys.length := h.length_eq
theorem r_answers {I : MI} {A : St} {p : Nat} {Q : MI → Prop} (h : ∃ Y, RR I A Y) (hs : SetOk A) (hd : DynOk A) (hp : p < 3) (hQ : ∀ I', (∃ Y, RR I' (answ (sC A).length A p) Y) → RF I I' → Q I') : wp_X10_answers I (nI p) Q := by
  have key : ∀ (n : Nat) (A : St) (I : MI) (v2 : Int32), (∃ Y, RR I A Y) → SetOk A → DynOk A → (sC A).length = n → (callNext A p = none → v2 = -1) → (∀ k, callNext A p = some k → v2 = nI k) → (∀ I', (∃ Y, RR I' (answ n A p) Y) → RF I I' → Q I') → lp_X10_answers_6 (nI p) Q (n + 1) v2 I := by
    intro n
    induction n with
    | zero =>
      intro A I v2 h hs hd hn h0 h1 hQ
      have hnone : callNext A p = none := by
        cases hk : callNext A p with
        | none => rfl
        | some k =>
          obtain ⟨c, hc, _⟩ := callNext_get hk
          have := lt_of_get hc
          omega
      unfold lp_X10_answers_6
      rw [show (71 : Int32) = nI 71 from rfl, nI_add]
      refine ⟨vp_in_nI (by omega) (by omega), fun _ => hQ I h RF.rf, fun _ => ⟨fun _ => hQ I h RF.rf, fun z => absurd (h0 hnone) z⟩⟩
    | succ n ih =>
      intro A I v2 h hs hd hn h0 h1 hQ
      obtain ⟨Y, h⟩ := h
      have e71 : I 337 (71 + p) = nI (sN A 13 p) := h.n (j := 13) (i := p) (by unfold rd; simp; omega)
      have hst : sN A 13 p ≤ 183 := by
        have h8 := hd.2.2.2.2.2.2.2.1
        have := tot_le (f := sN A 13) 4 (show p < 4 by omega)
        unfold TP at h8
        omega
      unfold lp_X10_answers_6
      rw [show (71 : Int32) = nI 71 from rfl, nI_add, ix_nI (by omega), e71]
      refine ⟨vp_in_nI (by omega) (by omega), ?_⟩
      refine pk_le (sN A 13 p) 0 (fun z => hQ I ⟨Y, ?_⟩ RF.rf) (fun z => ?_)
      · unfold answ
        rw [if_pos (by omega)]
        exact h
      · cases hk : callNext A p with
        | none =>
          refine ⟨fun _ => hQ I ⟨Y, ?_⟩ RF.rf, fun w => absurd (h0 hk) w⟩
          unfold answ
          rw [if_neg (by omega), hk]
          exact h
        | some k =>
          obtain ⟨c, hc, hcp⟩ := callNext_get hk
          have hkl := lt_of_get hc
          have hl := h.2.2.2.2.2.2.2.2.1
          have hlst := h.2.2.2.1
          have hv := (hd.2.2.2.2.1 c (List.mem_of_getElem? hc)).1
          have hc12 := vc_lt hs hv
          have hne : ¬ v2 = -1 := fun g => by
            rw [h1 k hk] at g
            have := nI_pos' (n := k) (by omega)
            rw [g] at this
            exact absurd this (by decide)
          refine ⟨fun w => absurd w hne, fun _ => ?_⟩
          have hz : (412 : Int32) + 3 * nI k = nI (412 + 3 * k) := by
            rw [show (3 : Int32) = nI 3 from rfl, pk_mul, show (412 : Int32) = nI 412 from rfl, nI_add]
          have x0 : I 337 (412 + 3 * k) = nI (c.1 / 4) := hlst k _ hc 0 (by omega)
          have e15 : I 337 15 = nI (sC A).length := h.2.1.2.1
          rw [h1 k hk, hz, ix_nI (by omega), x0, show ix 15 = 15 from by decide, e15, show ix 12 = 12 from by decide, show (29 : Int32) = nI 29 from rfl, nI_add, ix_nI (by omega)]
          refine ⟨vp_in_nI (by omega) (by omega), v15, r_closes (base := 412) (wide := 3) hlst hkl (by omega) (fun I7 q1 q2 q3 => ?_)⟩
          refine ⟨v15, v15, fun I10 e10 => ⟨vp_in_nI (by omega) (by omega), vp_in_nI (by omega) (by omega), fun I13 e13 => ⟨v12, v12, fun I16 e16 => ⟨vp_in_nI (by omega) (by omega), ?_⟩⟩⟩⟩
          have g15 : I7 337 15 = nI (sC A).length := by rw [q2 _ (by omega)]; exact e15
          rw [g15, hn, nI_pred] at e10
          have hlen : ((sC A).eraseIdx k).length = n := by rw [List.length_eraseIdx_of_lt hkl]; omega
          have h10 : RR I10 (setC A ((sC A).eraseIdx k)) Y := by
            refine h.putC (fun s hs hs2 => ?_) ?_ (q1.fr (fun s h1 h2 => ?_)) (by omega)
            · rw [e10, u2_n2 hs2, q2 s (by omega)]
            · rw [e10, u2_s, hlen]
            · rw [e10, u2_n2 (by omega)]
          have g71 : I10 337 (71 + p) = nI (sN A 13 p) := h10.n (j := 13) (i := p) (by unfold rd; simp; omega)
          have e13' : I13 = u2 I10 337 (ri 13 p) (nI (sN A 13 p - 1)) := by
            rw [e13, g71]
            show u2 I10 337 (71 + p) _ = u2 I10 337 (71 + p) _
            congr 1
            obtain ⟨r, hr⟩ : ∃ r, sN A 13 p = r + 1 := ⟨sN A 13 p - 1, by omega⟩
            rw [hr, nI_pred]
            rfl
          have h13 := h10.putN (j := 13) (i := p) (by unfold rd; simp; omega) e13'
          have g12 : I13 337 12 = sT A 0 18 := h13.t (j := 0) (i := 18) (by decide)
          rw [g12] at e16
          have h16 := h13.putT (j := 0) (i := 18) (by decide) e16
          have g29 : I16 337 (29 + c.1 / 4) = nI (sN A 6 (c.1 / 4)) := by
            have := h16.n (j := 6) (i := c.1 / 4) (by unfold rd; simp; omega)
            rw [show ri 6 (c.1 / 4) = 29 + c.1 / 4 from rfl] at this
            rw [this]
            congr 1
          rw [g29]
          have hYl : Y.length = (sY A).length := h.2.2.2.2.2.2.1.length_eq
          have hyl := hd.yl
          rw [← hcp, show (3 : Int32) = nI 3 from rfl]
          have f16 : RF I I16 := fun a ha => by rw [e16, u2_ne ha, e13, u2_ne ha, e10, u2_ne ha, q3 a ha]
          refine r_begins (k := 3) (c := c.1) h16 (by omega) (by simp) (fun I19 h19 f19 => ?_)
          rw [hcp]
          obtain ⟨a1, a2, a3, a4⟩ := answ1_ok (p := p) hs hd (by omega) (by omega) hc
          have h19' : ∃ Y, RR I19 (answ1 A p k c.1) Y := ⟨_, h19⟩
          refine r_nextCall h19 a1 a2 (by omega) (fun k' hk' => ?_) (fun hk' => ?_)
          · refine ih _ I19 (nI k') h19' a1 a2 (by omega) (fun g => ?_) (fun k2 g => ?_) (fun I' h' f' => hQ I' ?_ ((f16.tr f19).tr f'))
            · have : callNext (answ1 A p k c.1) p = some k' := hk'
              rw [g] at this
              cases this
            · have : callNext (answ1 A p k c.1) p = some k' := hk'
              rw [g] at this
              cases this
              rfl
            · unfold answ
              rw [if_neg (by omega), hk]
              simp only
              rw [hc]
              exact h'
          · refine ih _ I19 (-1) h19' a1 a2 (by omega) (fun g => rfl) (fun k2 g => ?_) (fun I' h' f' => hQ I' ?_ ((f16.tr f19).tr f'))
            · have : callNext (answ1 A p k c.1) p = none := hk'
              rw [g] at this
              cases this
            · unfold answ
              rw [if_neg (by omega), hk]
              simp only
              rw [hc]
              exact h'
  obtain ⟨Y, h⟩ := h
  unfold wp_X10_answers
  refine r_nextCall h hs hd (by omega) (fun k hk => ⟨(sC A).length + 1, ?_⟩) (fun hk => ⟨(sC A).length + 1, ?_⟩)
  · exact key _ A I _ ⟨Y, h⟩ hs hd rfl (fun g => by rw [hk] at g; cases g) (fun k' g => by rw [hk] at g; cases g; rfl) hQ
  · exact key _ A I _ ⟨Y, h⟩ hs hd rfl (fun g => rfl) (fun k' g => by rw [hk] at g; cases g) hQ
