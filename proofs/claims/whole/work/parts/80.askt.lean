/-! what is asked: the reference's rows -/
theorem r_isN {v : Int32} {m : Nat} {Q : Int32 → Prop} (hm : m < 2 ^ 30) (h1 : ∀ j, j ≤ m → v = nI j → Q 1) (h0 : (∀ j, j ≤ m → ¬ v = nI j) → Q 0) : wp_X10_isIn v 0 (nI m) Q := by
  unfold wp_X10_isIn
  refine ⟨fun z => h0 (fun j hj e => ?_), fun z => ?_⟩
  · rw [e] at z
    exact absurd z (nI_pos (by omega))
  · obtain ⟨j, hj, rfl⟩ := nI_of z
    refine pk_lt m j (fun w => h0 (fun q hq e => ?_)) (fun w => h1 j w rfl)
    have := (nI_eq hj (by omega)).mp e
    omega
/-- of two ways which comes sooner -/
def ltB (a b : Nat × Nat × Nat × Nat) : Bool := decide (a.2.2.2 < b.2.2.2 ∨ (a.2.2.2 = b.2.2.2 ∧ a.2.1 < b.2.1))
theorem rank_of : ∀ (ys : List (Nat × Nat × Nat × Nat)) (k : Nat) (y : Nat × Nat × Nat × Nat), ys.Pairwise ltY → ys[k]? = some y → ys.countP (fun z => ltB z y) = k
  | [], k, y, _, h => by cases h
  | y0 :: ys, 0, y, hp, h => by
    have : y0 = y := by simpa using h
    subst this
    rw [List.pairwise_cons] at hp
    rw [List.countP_eq_zero]
    intro z hz
    unfold ltB
    simp only [decide_eq_true_eq]
    rcases List.mem_cons.mp hz with rfl | hz
    · omega
    · have := hp.1 z hz
      unfold ltY at this
      omega
  | y0 :: ys, k + 1, y, hp, h => by
    rw [List.pairwise_cons] at hp
    have h : ys[k]? = some y := by simpa using h
    have ih := rank_of ys k y hp.2 h
    have := hp.1 y (List.mem_of_getElem? h)
    rw [List.countP_cons, ih, if_pos]
    unfold ltB ltY at *
    simpa using this
section RASQ
variable {I : MI} {A : St} {Y : List (Nat × Nat × Nat × Nat)}
theorem r_want {x1 x2 : Int32} {Q : Int32 → Prop} (h : RR I A Y) (h1 : ∀ (k : Nat) (w : Nat × Nat × Nat), x1 = nI k → (sW A)[k]? = some w → Q (if x2 = 0 then nI (w.1 / 4) else if x2 = 1 then nI (w.1 % 4) else if x2 = 2 then nI w.2.1 else if x2 = 3 then nI w.2.2 else -1)) (h0 : ¬ isIx x1 (sW A).length → Q (-1)) : wp_X10_want I x1 x2 Q := by
  have e14 : I 337 14 = nI (sW A).length := h.2.1.1
  have hl := h.2.2.2.2.2.2.2.1
  have hlst := h.2.2.1
  unfold wp_X10_want
  rw [show ix 14 = 14 from by decide, e14]
  refine ⟨v14, r_isIx (by omega) (fun ⟨k, hk, ek⟩ => ⟨fun z => absurd z (by decide), fun _ => ?_⟩) (fun z => ⟨fun _ => h0 z, fun w => absurd rfl w⟩)⟩
  have hg : (sW A)[k]? = some (sW A)[k] := List.getElem?_eq_getElem hk
  have hQ := h1 k _ ek hg
  refine r_isN (m := 3) (by omega) (fun j hj ej => ⟨fun z => absurd z (by decide), fun _ => ?_⟩) (fun z => ⟨fun _ => ?_, fun w => absurd rfl w⟩)
  · rw [ek, ej, z92, nI_add, ix_nI (by omega), hlst k _ hg j (by omega)]
    rw [ej] at hQ
    refine ⟨vp_in_nI (by omega) (by omega), ?_⟩
    obtain rfl | rfl | rfl | rfl : j = 0 ∨ j = 1 ∨ j = 2 ∨ j = 3 := by omega
    · rw [if_pos (by decide)] at hQ; exact hQ
    · rw [if_neg (by decide), if_pos (by decide)] at hQ; exact hQ
    · rw [if_neg (by decide), if_neg (by decide), if_pos (by decide)] at hQ; exact hQ
    · rw [if_neg (by decide), if_neg (by decide), if_neg (by decide), if_pos (by decide)] at hQ; exact hQ
  · rw [if_neg (show ¬ x2 = 0 from z 0 (by omega)), if_neg (show ¬ x2 = 1 from z 1 (by omega)), if_neg (show ¬ x2 = 2 from z 2 (by omega)), if_neg (show ¬ x2 = 3 from z 3 (by omega))] at hQ
    exact hQ
theorem r_waits {x1 : Int32} {Q : Int32 → Prop} (h : RR I A Y) (h1 : ∀ (k : Nat) (p : Nat), x1 = nI k → (sQ A)[k]? = some p → Q (nI p)) (h0 : ¬ isIx x1 (sQ A).length → Q (-1)) : wp_X10_waits I x1 Q := by
  have e17 : I 337 17 = nI (sQ A).length := h.2.1.2.2.2
  have hl := h.2.2.2.2.2.2.2.2.2.2
  have hlst := h.2.2.2.2.2.1
  unfold wp_X10_waits
  rw [show ix 17 = 17 from by decide, e17]
  refine ⟨v17, r_isIx (by omega) (fun ⟨k, hk, ek⟩ => ⟨fun z => absurd z (by decide), fun _ => ?_⟩) (fun z => ⟨fun _ => h0 z, fun w => absurd rfl w⟩)⟩
  have hg : (sQ A)[k]? = some (sQ A)[k] := List.getElem?_eq_getElem hk
  have hQ := h1 k _ ek hg
  have x0 : I 337 (2012 + k) = nI (sQ A)[k] := by
    have := hlst k _ hg 0 (by omega)
    rw [Nat.one_mul, Nat.add_zero] at this
    exact this
  rw [ek, z2012, ix_nI (by omega), x0]
  exact ⟨vp_in_nI (by omega) (by omega), hQ⟩
theorem r_call {p : Nat} {x2 x3 : Int32} {Q : Int32 → Prop} (h : RR I A Y) (hs : SetOk A) (hp : p < sN A 1 0) (hQ : klV A p x2 x3 Q) : wp_X10_call I (nI p) x2 x3 Q := by
  have h3 := hs.1.1
  have e15 : I 337 15 = nI (sC A).length := h.2.1.2.1
  have hl := h.2.2.2.2.2.2.2.2.1
  have hlst := h.2.2.2.1
  unfold wp_X10_call
  refine r_isPart h hs (fun _ => ⟨fun z => absurd z (by decide), fun _ => ⟨fun z => hQ.2 (Or.inl z), fun z => ?_⟩⟩) (fun z => absurd ⟨p, hp, rfl⟩ z)
  obtain ⟨k, hk, rfl⟩ := nI_of z
  have other : (¬ x3 = 0 ∧ ¬ x3 = 1) → Q (-1) := by
    intro ⟨g0, g1⟩
    cases hf : fidx (isC p) (sC A) 0 k with
    | none => exact hQ.2 (Or.inr ⟨k, hk, rfl, hf⟩)
    | some j =>
      obtain ⟨q, c, e1, e2, e3⟩ := fidx_some _ _ _ _ hf
      have := hQ.1 k j c hk rfl hf (by rw [e1, Nat.zero_add]; exact e2)
      rw [if_neg g0, if_neg g1] at this
      exact this
  refine r_isN (m := 1) (by omega) (fun t ht et => ⟨fun _ => ⟨(sC A).length + 1, ?_⟩, fun w => absurd w (by decide)⟩) (fun w => ⟨fun u => absurd rfl u, fun _ => other ⟨w 0 (by omega), w 1 (by omega)⟩⟩)
  have fin : ∀ (j : Nat) (c : Nat × Nat), fidx (isC p) (sC A) 0 k = some j → (sC A)[j]? = some c → (vp_in ((412 + (3 * nI j)) + (2 * x3)) 2212 ∧ Q (I 337 (ix ((412 + (3 * nI j)) + (2 * x3))))) := by
    intro j c hj hc
    have hjl := lt_of_get hc
    have := hQ.1 k j c hk rfl hj hc
    rw [et, z412, show (2 : Int32) * nI t = nI (2 * t) from pk_mul 2 t, nI_add, ix_nI (by omega), hlst j c hc (2 * t) (by omega)]
    refine ⟨vp_in_nI (by omega) (by omega), ?_⟩
    rw [et] at this
    obtain rfl | rfl : t = 0 ∨ t = 1 := by omega
    · rw [if_pos (by decide)] at this; exact this
    · rw [if_neg (by decide), if_pos (by decide)] at this; exact this
  have key : ∀ (n i left : Nat), i + n = (sC A).length → left < 2 ^ 31 → fidx (isC p) ((sC A).drop i) i left = fidx (isC p) (sC A) 0 k → lp_X10_call_29 I (nI p) Q (fun x16 => (vp_in ((412 + (3 * x16)) + (2 * x3)) 2212 ∧ Q (I 337 (ix ((412 + (3 * x16)) + (2 * x3)))))) (n + 1) (nI left) (nI i) := by
    intro n
    induction n with
    | zero =>
      intro i left hi hlf hf
      unfold lp_X10_call_29
      rw [show ix 15 = 15 from by decide, e15]
      rw [List.drop_of_length_le (by omega)] at hf
      exact ⟨v15, fun _ => hQ.2 (Or.inr ⟨k, hk, rfl, hf.symm⟩), fun z => absurd (nI_le (by omega) (by omega)) z⟩
    | succ n ih =>
      intro i left hi hlf hf
      have hil : i < (sC A).length := by omega
      have hg : (sC A)[i]? = some (sC A)[i] := List.getElem?_eq_getElem hil
      have y1 : I 337 (412 + 3 * i + 1) = nI ((sC A)[i].1 % 4) := hlst i _ hg 1 (by omega)
      rw [List.drop_eq_getElem_cons hil, fidx_cons] at hf
      have fini := fin i (sC A)[i]
      unfold lp_X10_call_29 jn_X10_call_89
      rw [show ix 15 = 15 from by decide, e15]
      refine ⟨v15, fun z => absurd z (nI_ge (by omega) (by omega)), fun _ => ?_⟩
      have hz1 : (412 : Int32) + 3 * nI i + 1 = nI (412 + 3 * i + 1) := by rw [z412, nI_1]
      rw [hz1, ix_nI (n := 412 + 3 * i + 1) (by omega), y1]
      refine ⟨vp_in_nI (by omega) (by omega), pk_eq ((sC A)[i].1 % 4) p (fun z => ?_) (fun z => ?_)⟩
      · have hc : isC p (sC A)[i] = true := by unfold isC; simpa using z
        rw [hc] at hf
        cases left with
        | zero =>
          simp only [if_true] at hf
          exact ⟨fun w => absurd rfl w, fun _ => fini hf.symm hg⟩
        | succ l =>
          simp only [if_true] at hf
          refine ⟨fun _ => ?_, fun w => absurd w (nI_ne0 (by omega) hlf)⟩
          rw [pk_m1, nI_1]
          exact ih (i + 1) l (by omega) (by omega) hf
      · have hc : isC p (sC A)[i] = false := by unfold isC; simpa using z
        rw [hc] at hf
        simp only [Bool.false_eq_true, if_false] at hf
        rw [nI_1]
        exact ih (i + 1) left (by omega) hlf hf
  rw [← nI_0]
  exact key (sC A).length 0 k (by omega) hk (by rw [List.drop_zero])
theorem r_way {x1 x2 : Int32} {Q : Int32 → Prop} (h : RR I A Y) (hw : Wf A) (h1 : ∀ (k : Nat) (y : Nat × Nat × Nat × Nat), x1 = nI k → (sY A)[k]? = some y → Q (if x2 = 0 then nI y.1 else if x2 = 1 then nI y.2.1 else if x2 = 2 then nI (y.2.2.1 % 4) else if x2 = 3 then (if y.1 = 2 then -2 else nI (y.2.2.1 / 4)) else if x2 = 4 then nI y.2.2.2 else -1)) (h0 : ¬ isIx x1 (sY A).length → Q (-1)) : wp_X10_way I x1 x2 Q := by
  have e16 : I 337 16 = nI Y.length := h.2.1.2.2.1
  have hl := h.2.2.2.2.2.2.2.2.2.1
  have hlst := h.2.2.2.2.1
  have hpm := h.2.2.2.2.2.2.1
  have hlen := hpm.length_eq
  have i16 : ix 16 = 16 := by decide
  unfold wp_X10_way
  rw [i16, e16]
  refine ⟨v16, r_isIx (by omega) (fun ⟨k, hk, ek⟩ => ⟨fun z => absurd z (by decide), fun _ => ?_⟩) (fun z => ⟨fun _ => h0 (by rw [← hlen]; exact z), fun w => absurd rfl w⟩)⟩
  have hk' : k < (sY A).length := by omega
  have hg : (sY A)[k]? = some (sY A)[k] := List.getElem?_eq_getElem hk'
  have hQ := h1 k _ ek hg
  have yb : ∀ y ∈ Y, y.2.1 < 2 ^ 30 ∧ y.2.2.2 < 2 ^ 30 := fun y hy => by
    have a := hw.1 y (hpm.mem_iff.mp hy)
    have b := hw.2.2.2.2.2.2
    exact ⟨by omega, by omega⟩
  refine r_isN (m := 4) (by omega) (fun t ht et => ⟨fun _ => ⟨Y.length + 1, ?_⟩, fun w => absurd w (by decide)⟩) (fun w => ⟨fun u => absurd rfl u, fun _ => ?_⟩)
  · have inner : ∀ (i : Nat) (hi : i < Y.length) (kf : Int32 → Prop), kf (nI (Y.countP (fun z => ltB z Y[i]))) → ∃ N, lp_X10_way_47 I (nI i) kf N 0 0 := by
      intro i hi kf hkf
      have hgi : Y[i]? = some Y[i] := List.getElem?_eq_getElem hi
      have a4 : I 337 (1012 + 5 * i + 4) = nI Y[i].2.2.2 := hlst i _ hgi 4 (by omega)
      have a1 : I 337 (1012 + 5 * i + 1) = nI Y[i].2.1 := hlst i _ hgi 1 (by omega)
      have hbi := yb _ (List.getElem_mem hi)
      have key : ∀ (n j m : Nat), j + n = Y.length → kf (nI (m + (Y.drop j).countP (fun z => ltB z Y[i]))) → lp_X10_way_47 I (nI i) kf (n + 1) (nI m) (nI j) := by
        intro n
        induction n with
        | zero =>
          intro j m hj hq
          unfold lp_X10_way_47
          rw [i16, e16]
          refine ⟨v16, fun _ => ?_, fun z => absurd (nI_le (by omega) (by omega)) z⟩
          rw [List.drop_of_length_le (by omega)] at hq
          exact hq
        | succ n ih =>
          intro j m hj hq
          have hjl : j < Y.length := by omega
          have hgj : Y[j]? = some Y[j] := List.getElem?_eq_getElem hjl
          have b4 : I 337 (1012 + 5 * j + 4) = nI Y[j].2.2.2 := hlst j _ hgj 4 (by omega)
          have b1 : I 337 (1012 + 5 * j + 1) = nI Y[j].2.1 := hlst j _ hgj 1 (by omega)
          have hbj := yb _ (List.getElem_mem hjl)
          rw [List.drop_eq_getElem_cons hjl, List.countP_cons] at hq
          have yes : (Y[j].2.2.2 < Y[i].2.2.2 ∨ (Y[j].2.2.2 = Y[i].2.2.2 ∧ Y[j].2.1 < Y[i].2.1)) → jn_X10_way_135 (nI j) (nI m) (fun x15 x16 => (lp_X10_way_47 I (nI i) kf (n + 1) x15 x16)) := by
            intro z
            have : ltB Y[j] Y[i] = true := by unfold ltB; simpa using z
            rw [this] at hq
            unfold jn_X10_way_135 jn_X10_way_140
            rw [nI_1, nI_1]
            refine ih (j + 1) (m + 1) (by omega) ?_
            rw [show m + 1 + (Y.drop (j + 1)).countP (fun z => ltB z Y[i]) = m + ((Y.drop (j + 1)).countP (fun z => ltB z Y[i]) + 1) by omega]
            simpa using hq
          have no : ¬ (Y[j].2.2.2 < Y[i].2.2.2 ∨ (Y[j].2.2.2 = Y[i].2.2.2 ∧ Y[j].2.1 < Y[i].2.1)) → jn_X10_way_139 (nI j) (nI m) (fun x15 x16 => (lp_X10_way_47 I (nI i) kf (n + 1) x15 x16)) := by
            intro z
            have : ltB Y[j] Y[i] = false := by unfold ltB; simpa using z
            rw [this] at hq
            unfold jn_X10_way_139 jn_X10_way_140
            rw [show (0 : Int32) = nI 0 from rfl, nI_add, nI_1]
            exact ih (j + 1) m (by omega) (by simpa using hq)
          have hz4 : ∀ q, (1012 : Int32) + 5 * nI q + 4 = nI (1012 + 5 * q + 4) := fun q => by rw [z1012, nI_4]
          have hz1 : ∀ q, (1012 : Int32) + 5 * nI q + 1 = nI (1012 + 5 * q + 1) := fun q => by rw [z1012, nI_1]
          unfold lp_X10_way_47
          rw [i16, e16, hz4, hz4, hz1, hz1, ix_nI (n := 1012 + 5 * j + 4) (by omega), ix_nI (n := 1012 + 5 * i + 4) (by omega), ix_nI (n := 1012 + 5 * j + 1) (by omega), ix_nI (n := 1012 + 5 * i + 1) (by omega), a4, a1, b4, b1]
          refine ⟨v16, fun z => absurd z (nI_ge (by omega) (by omega)), fun _ => ⟨vp_in_nI (by omega) (by omega), vp_in_nI (by omega) (by omega), ?_⟩⟩
          by_cases hc : Y[j].2.2.2 < Y[i].2.2.2
          · exact ⟨fun _ => yes (Or.inl hc), fun z => absurd (pk_sneg hbi.2 hc) z⟩
          · rw [pk_sub (by omega)]
            refine ⟨fun z => absurd z (nI_pos (by omega)), fun _ => ⟨fun z => no (fun q => ?_), fun z => ⟨vp_in_nI (by omega) (by omega), vp_in_nI (by omega) (by omega), ?_⟩⟩⟩
            · rcases q with q | q
              · exact hc q
              · exact z (by rw [q.1, Nat.sub_self]; rfl)
            · have z : Y[j].2.2.2 - Y[i].2.2.2 = 0 := by
                rcases Nat.eq_zero_or_pos (Y[j].2.2.2 - Y[i].2.2.2) with g | g
                · exact g
                · exact absurd z (nI_ne0 g (by omega))
              exact pk_le Y[i].2.1 Y[j].2.1 (fun w => no (by omega)) (fun w => yes (by omega))
      refine ⟨Y.length + 1, ?_⟩
      rw [← nI_0]
      exact key Y.length 0 0 (by omega) (by simpa using hkf)
    have sorted := hw.2.1
    have key : ∀ (n i : Nat), i + n = Y.length → (∃ i0, i ≤ i0 ∧ Y[i0]? = some (sY A)[k]) → lp_X10_way_30 I x1 Q (fun x33 => (vp_in ((1012 + (5 * x33)) + x2) 2212 ∧ Q (I 337 (ix ((1012 + (5 * x33)) + x2))))) (n + 1) (nI i) := by
      intro n
      induction n with
      | zero =>
        intro i hi ⟨i0, ha, hb⟩
        have := lt_of_get hb
        omega
      | succ n ih =>
        intro i hi ⟨i0, ha, hb⟩
        have hil : i < Y.length := by omega
        unfold lp_X10_way_30
        rw [i16, e16]
        refine ⟨v16, fun z => absurd z (nI_ge (by omega) (by omega)), fun _ => inner i hil _ ?_⟩
        have hcl := List.countP_le_length (p := fun z => ltB z Y[i]) (l := Y)
        have hmi := hpm.mem_iff.mp (List.getElem_mem hil)
        obtain ⟨k', hk1, hk2⟩ := List.getElem_of_mem hmi
        have hr : Y.countP (fun z => ltB z Y[i]) = k' := by
          rw [hpm.countP_eq]
          exact rank_of _ _ _ sorted (by rw [List.getElem?_eq_getElem hk1, hk2])
        rw [ek, hr]
        refine (pk_eq k' k (fun z => ?_) (fun z => ?_)).symm
        · subst z
          have hyi : Y[i]? = some (sY A)[k'] := by rw [List.getElem?_eq_getElem hil, hk2]
          rw [et, z1012, nI_add, ix_nI (by omega), hlst i _ hyi t (by omega)]
          rw [et] at hQ
          refine ⟨vp_in_nI (by omega) (by omega), ?_⟩
          obtain rfl | rfl | rfl | rfl | rfl : t = 0 ∨ t = 1 ∨ t = 2 ∨ t = 3 ∨ t = 4 := by omega
          · rw [if_pos (by decide)] at hQ; exact hQ
          · rw [if_neg (by decide), if_pos (by decide)] at hQ; exact hQ
          · rw [if_neg (by decide), if_neg (by decide), if_pos (by decide)] at hQ; exact hQ
          · rw [if_neg (by decide), if_neg (by decide), if_neg (by decide), if_pos (by decide)] at hQ; exact hQ
          · rw [if_neg (by decide), if_neg (by decide), if_neg (by decide), if_neg (by decide), if_pos (by decide)] at hQ; exact hQ
        · rw [nI_1, ← ek]
          refine ih (i + 1) (by omega) ⟨i0, ?_, hb⟩
          rcases Nat.lt_or_ge i i0 with g | g
          · exact g
          · have : i0 = i := by omega
            subst this
            rw [List.getElem?_eq_getElem hil] at hb
            have e : Y[i0] = (sY A)[k] := Option.some.inj hb
            have : Y.countP (fun z => ltB z Y[i0]) = k := by
              rw [hpm.countP_eq]
              exact rank_of _ _ _ sorted (by rw [hg, e])
            omega
    rw [← nI_0]
    have hmk := hpm.mem_iff.mpr (List.getElem_mem hk')
    obtain ⟨i0, q1, q2⟩ := List.getElem_of_mem hmk
    exact key Y.length 0 (by omega) ⟨i0, Nat.zero_le _, by rw [List.getElem?_eq_getElem q1, q2]⟩
  · rw [if_neg (show ¬ x2 = 0 from w 0 (by omega)), if_neg (show ¬ x2 = 1 from w 1 (by omega)), if_neg (show ¬ x2 = 2 from w 2 (by omega)), if_neg (show ¬ x2 = 3 from w 3 (by omega)), if_neg (show ¬ x2 = 4 from w 4 (by omega))] at hQ
    exact hQ
theorem r_sumOf {s : Nat} {f : Nat → Nat} {Q : Int32 → Prop} (hs : s + 9 ≤ 2212) (h : ∀ k, k < 9 → I 337 (s + k) = nI (f k)) (hQ : Q (nI (tot f 9))) : wp_X10_sumOf I (nI s) 9 Q := by
  have key : ∀ (n i : Nat), i + n = 9 → lp_X10_sumOf_5 I (nI s) 9 Q (n + 1) (nI (tot f i)) (nI i) := by
    intro n
    induction n with
    | zero =>
      intro i hi
      have hi : i = 9 := by omega
      subst hi
      unfold lp_X10_sumOf_5
      exact ⟨fun _ => hQ, fun z => absurd (by decide) z⟩
    | succ n ih =>
      intro i hi
      unfold lp_X10_sumOf_5
      rw [nI_add, ix_nI (by omega), h i (by omega), nI_add, nI_1, show (9 : Int32) = nI 9 from rfl]
      exact ⟨fun z => absurd z (nI_ge (by omega) (by omega)), fun _ => ⟨vp_in_nI (by omega) (by omega), ih (i + 1) (by omega)⟩⟩
  unfold wp_X10_sumOf
  refine ⟨10, ?_⟩
  rw [← nI_0]
  exact key 9 0 (by omega)
theorem tot16 {f : Nat → Nat} (h : ∀ c, c < 16 → (c % 4 = 3 ∨ 12 ≤ c) → f c = 0) : tot f 16 = tot (fun k => f (4 * (k / 3) + k % 3)) 9 := by
  have a3 := h 3 (by omega) (by omega)
  have a7 := h 7 (by omega) (by omega)
  have a11 := h 11 (by omega) (by omega)
  have a12 := h 12 (by omega) (by omega)
  have a13 := h 13 (by omega) (by omega)
  have a14 := h 14 (by omega) (by omega)
  have a15 := h 15 (by omega) (by omega)
  simp only [tot, a3, a7, a11, a12, a13, a14, a15]
  rfl
theorem cellslots {j s : Nat} (h : RR I A Y) (hj : 7 ≤ j) (hj2 : j ≤ 11) (hr : ∀ c, ri j c = s + (3 * (c / 4) + c % 4)) : ∀ k, k < 9 → I 337 (s + k) = nI (sN A j (4 * (k / 3) + k % 3)) := by
  intro k hk
  have := h.n (rdc (j := j) (c := 4 * (k / 3) + k % 3) hj hj2 (by omega) (by omega))
  rw [hr, show 3 * ((4 * (k / 3) + k % 3) / 4) + (4 * (k / 3) + k % 3) % 4 = k by omega] at this
  exact this
theorem r_count {u t v : Int32} {Q : Int32 → Prop} (h : RR I A Y) (hs : SetOk A) (hu : I 336 4 = u) (ht : I 336 6 = t) (hQ : Q (countV A u t v)) : wp_X10_count I v Q := by
  have h3 := hs.1.1
  have h4 := hs.1.2.1
  have e0 : I 337 0 = nI (sN A 1 0) := h.n (j := 1) (i := 0) (by decide)
  have e1 : I 337 1 = nI (sN A 1 1) := h.n (j := 1) (i := 1) (by decide)
  have e2 : I 337 2 = nI (sN A 1 2) := h.n (j := 1) (i := 2) (by decide)
  have e3 : I 337 3 = nI (sN A 1 3) := h.n (j := 1) (i := 3) (by decide)
  have e4 : I 337 4 = nI (sN A 1 4) := h.n (j := 1) (i := 4) (by decide)
  have e13 : I 337 13 = nI (sN A 0 10) := h.n (j := 0) (i := 10) (by decide)
  have inv : ∀ c, c < 16 → (c % 4 = 3 ∨ 12 ≤ c) → sN A 7 c = 0 ∧ sN A 8 c = 0 ∧ sN A 9 c = 0 := fun c hc hz => hs.2.2.2.2.2.1 c hc (fun g => by unfold vc at g; omega)
  unfold wp_X10_count
  rw [show ix 0 = 0 from by decide, show ix 1 = 1 from by decide, show ix 2 = 2 from by decide, show ix 3 = 3 from by decide, show ix 4 = 4 from by decide, show ix 13 = 13 from by decide, e0, e1, e2, e3, e4, e13, hu, ht]
  unfold countV at hQ
  rw [tot16 (fun c hc hz => (inv c hc hz).1), tot16 (fun c hc hz => (inv c hc hz).2.2)] at hQ
  exact wi hQ (fun g => ⟨v0, g⟩) (fun hQ => wi hQ (fun g => ⟨v1, g⟩) (fun hQ => wi hQ (fun g => ⟨v2, g⟩) (fun hQ => wi hQ (fun g => ⟨v3, g⟩) (fun hQ => wi hQ (fun g => ⟨v4, g⟩) (fun hQ => wi hQ id (fun hQ => wi hQ id (fun hQ => wi hQ (fun hQ => r_sumOf (s := 32) (by omega) (cellslots h (by omega) (by omega) (fun c => rfl)) hQ) (fun hQ => wi hQ (fun hQ => r_sumOf (s := 50) (by omega) (cellslots h (by omega) (by omega) (fun c => rfl)) hQ) (fun hQ => wi hQ (fun g => ⟨v13, g⟩) id)))))))))
end RASQ
