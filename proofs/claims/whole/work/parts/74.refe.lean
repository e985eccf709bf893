theorem perm_erase {α : Type} {y : α} : ∀ (Y : List α) (k : Nat), Y[k]? = some y → (y :: Y.eraseIdx k).Perm Y
  | [], k, h => by simp at h
  | x :: Y, 0, h => by
    have : x = y := by simpa using h
    subst this
    exact List.Perm.refl _
  | x :: Y, k + 1, h => by
    have ih := perm_erase Y k (by simpa using h)
    show (y :: x :: Y.eraseIdx k).Perm (x :: Y)
    exact (List.Perm.swap x y _).trans (ih.cons x)
theorem z1012 (k : Nat) : (1012 : Int32) + 5 * nI k = nI (1012 + 5 * k) := by
  rw [show (5 : Int32) = nI 5 from rfl, pk_mul, show (1012 : Int32) = nI 1012 from rfl, nI_add]
theorem z92 (k : Nat) : (92 : Int32) + 4 * nI k = nI (92 + 4 * k) := by
  rw [show (4 : Int32) = nI 4 from rfl, pk_mul, show (92 : Int32) = nI 92 from rfl, nI_add]
theorem z412 (k : Nat) : (412 : Int32) + 3 * nI k = nI (412 + 3 * k) := by
  rw [show (3 : Int32) = nI 3 from rfl, pk_mul, show (412 : Int32) = nI 412 from rfl, nI_add]
theorem nI_2 (a : Nat) : nI a + 2 = nI (a + 2) := nI_add a 2
theorem nI_3 (a : Nat) : nI a + 3 = nI (a + 3) := nI_add a 3
theorem nI_4 (a : Nat) : nI a + 4 = nI (a + 4) := nI_add a 4
theorem nI_nm {k : Nat} (h : k < 2 ^ 31) : ¬ nI k = -1 := fun g => by
  have := nI_pos' h
  rw [g] at this
  exact absurd this (by decide)
theorem r_arrives {I : MI} {A : St} {Y : List (Nat × Nat × Nat × Nat)} {k : Nat} {y : Nat × Nat × Nat × Nat} {ys : List (Nat × Nat × Nat × Nat)} {Q : MI → Prop} (h : RR I A Y) (hs : SetOk A) (hd : DynOk A) (hy : sY A = y :: ys) (hk : Y[k]? = some y) (hQ : ∀ I', (∃ Z, RR I' (come (setY A ys) y.1 y.2.2.1) Z) → RF I I' → Q I') : wp_X10_arrives I (nI k) Q := by
  have hkl := lt_of_get hk
  have e16 : I 337 16 = nI Y.length := h.2.1.2.2.1
  have hl := h.2.2.2.2.2.2.2.2.2.1
  have hlst := h.2.2.2.2.1
  have hp := h.2.2.2.2.2.2.1
  have hp2 : Y.Perm (y :: ys) := by rw [← hy]; exact hp
  obtain ⟨y4, y2, yv⟩ := pop_facts hd hy
  have hparts := hs.1.1
  have x0 : I 337 (1012 + 5 * k) = nI y.1 := hlst k _ hk 0 (by omega)
  have x2 : I 337 (1012 + 5 * k + 2) = nI (y.2.2.1 % 4) := hlst k _ hk 2 (by omega)
  have x3 : I 337 (1012 + 5 * k + 3) = if y.1 = 2 then -2 else nI (y.2.2.1 / 4) := hlst k _ hk 3 (by omega)
  have hsY : SetOk (setY A ys) := hs.same (fun _ _ _ => rfl)
  unfold wp_X10_arrives
  rw [z1012, nI_2, nI_3, ix_nI (n := 1012 + 5 * k) (by omega), ix_nI (n := 1012 + 5 * k + 2) (by omega), ix_nI (n := 1012 + 5 * k + 3) (by omega), x0, x2, x3, show ix 16 = 16 from by decide, e16]
  refine ⟨vp_in_nI (by omega) (by omega), vp_in_nI (by omega) (by omega), vp_in_nI (by omega) (by omega), v16, r_closes (base := 1012) (wide := 5) hlst hkl (by omega) (fun I5 q1 q2 q3 => ⟨v16, v16, fun I8 e8 => ?_⟩)⟩
  have g16 : I5 337 16 = nI Y.length := by rw [q2 _ (by omega)]; exact e16
  have hlen : (Y.eraseIdx k).length + 1 = Y.length := by rw [List.length_eraseIdx_of_lt hkl]; omega
  rw [g16, ← hlen, nI_pred] at e8
  have h8 : RR I8 (setY A ys) (Y.eraseIdx k) := by
    refine h.putY (fun s hs hs2 => ?_) ?_ (q1.fr (fun s h1 h2 => ?_)) ?_ (by omega)
    · rw [e8, u2_n2 hs2, q2 s (by omega)]
    · rw [e8, u2_s]
    · rw [e8, u2_n2 (by omega)]
    · exact ((perm_erase Y k hk).trans hp2).cons_inv
  have f8 : RF I I8 := fun a ha => by rw [e8, u2_ne ha, q3 a ha]
  refine (pk_eq y.1 1 (fun z => ?_) (fun z => (pk_eq y.1 2 (fun w => ?_) (fun w => ?_)).symm)).symm
  · have e17 : I8 337 17 = nI (sQ A).length := h8.2.1.2.2.2
    have hq190 : (sQ A).length ≤ 183 := by have := hd.yl; omega
    rw [show ix 17 = 17 from by decide, e17, show (2012 : Int32) + nI (sQ A).length = nI (2012 + (sQ A).length) from nI_add 2012 _, ix_nI (by omega)]
    refine ⟨v17, vp_in_nI (by omega) (by omega), fun I19 e19 => ⟨v17, v17, fun I22 e22 => ?_⟩⟩
    have g17 : I19 337 17 = nI (sQ A).length := by rw [e19, u2_n2 (by omega)]; exact e17
    rw [g17, nI_1] at e22
    have h22 : RR I22 (setQ (setY A ys) (sQ A ++ [y.2.2.1 % 4])) (Y.eraseIdx k) := by
      refine h8.putQ (fun s hs hs2 => ?_) ?_ ?_ ?_
      · rw [e22, u2_n2 hs2, e19, u2_n2 (by omega)]
      · rw [e22, u2_s, List.length_append, List.length_singleton]
      · have hl8 : lst (I8 337) 2012 1 (sQ A) gQ := h8.2.2.2.2.2.1
        refine hl8.app (fun s h1 h2 => ?_) (fun q hq => ?_)
        · rw [e22, u2_n2 (by omega), e19, u2_n2 (by omega)]
        · have hq : q = 0 := by omega
          subst hq
          rw [e22, u2_n2 (by omega), e19, Nat.one_mul, Nat.add_zero, u2_s]; rfl
      · rw [List.length_append, List.length_singleton]; omega
    refine r_loads ⟨_, h22⟩ (hs.same (fun _ _ _ => rfl)) (come1_ok hs hd hy z) (fun I23 h23 f23 => hQ I23 ?_ (fun a ha => ?_))
    · unfold come
      rw [if_pos z]
      exact h23
    · rw [f23 a ha, e22, u2_ne ha, e19, u2_ne ha, f8 a ha]
  · have hp3 : y.2.2.1 % 4 < 3 := by have := y2 w; omega
    have hrd : rd 13 (y.2.2.1 % 4) = true := by unfold rd; simp; omega
    have g71 : I8 337 (71 + y.2.2.1 % 4) = nI (sN A 13 (y.2.2.1 % 4)) := h8.n (j := 13) (i := y.2.2.1 % 4) hrd
    rw [show (71 : Int32) + nI (y.2.2.1 % 4) = nI (71 + y.2.2.1 % 4) from nI_add 71 _, ix_nI (by omega), g71, nI_1]
    refine ⟨vp_in_nI (by omega) (by omega), vp_in_nI (by omega) (by omega), fun I14 e14 => ?_⟩
    have h14 : RR I14 (come2A A ys (y.2.2.1 % 4)) (Y.eraseIdx k) := (h8.skip11).putN (j := 13) hrd e14
    obtain ⟨a1, a2⟩ := come2_ok hs hd hy w
    refine r_answers ⟨_, h14⟩ a2 a1 hp3 (fun I15 h15 f15 => ?_)
    obtain ⟨b1, b2, b3⟩ := answ_ok (sC (come2A A ys (y.2.2.1 % 4))).length a2 a1 (p := y.2.2.1 % 4) (by omega)
    refine r_loads h15 b1 b2 (fun I16 h16 f16 => hQ I16 ?_ (fun a ha => ?_))
    · unfold come
      rw [if_neg z, if_pos w]
      exact h16
    · rw [f16 a ha, f15 a ha, e14, u2_ne ha, f8 a ha]
  · rw [if_neg w]
    refine r_comes ⟨_, h8⟩ hsY (come3_ok hd hy z w) (yv w) (fun I11 h11 f11 => hQ I11 ?_ (f8.tr f11))
    unfold come
    rw [if_neg z, if_neg w]
    exact h11
theorem r_arrs {kf : MI → Prop} : ∀ (n : Nat) (A : St) (I : MI) (Y : List (Nat × Nat × Nat × Nat)) (x1 : Int32), RR I A Y → SetOk A → DynOk A → YD A (sN A 0 9) → due A ≤ n → sN A 0 10 + 190 * n < 2 ^ 30 → ((x1 = -1 ∧ ∀ y ∈ sY A, sN A 0 9 < y.2.2.2) ∨ ∃ (k : Nat) (y : Nat × Nat × Nat × Nat) (ys : List (Nat × Nat × Nat × Nat)), x1 = nI k ∧ sY A = y :: ys ∧ y.2.2.2 = sN A 0 9 ∧ Y[k]? = some y) → (∀ I', (∃ Z, RR I' (arr n A) Z) → RF I I' → kf I') → lp_X10_goesDay_15 kf (n + 1) x1 I := by
  intro n
  induction n with
  | zero =>
    intro A I Y x1 h hs hd hyd hdu hb hv hk
    unfold lp_X10_goesDay_15
    rcases hv with ⟨hv, _⟩ | ⟨k, y, ys, _, hy, hyd9, _⟩
    · exact ⟨fun _ => hk I ⟨Y, h⟩ RF.rf, fun z => absurd hv z⟩
    · have : due A = due (setY A ys) + 1 := by
        unfold due
        rw [hy, List.countP_cons_of_pos (by simp; omega)]
      omega
  | succ n ih =>
    intro A I Y x1 h hs hd hyd hdu hb hv hk
    unfold lp_X10_goesDay_15
    rcases hv with ⟨hv, hall⟩ | ⟨k, y, ys, hv, hy, hyd9, hget⟩
    · refine ⟨fun _ => hk I ⟨Y, ?_⟩ RF.rf, fun z => absurd hv z⟩
      unfold arr
      cases hy : sY A with
      | nil => exact h
      | cons y ys =>
        simp only
        have := hall y (by rw [hy]; exact List.mem_cons_self)
        rw [if_neg (by omega)]
        exact h
    · have hkl := lt_of_get hget
      have hl := h.2.2.2.2.2.2.2.2.2.1
      have hne : ¬ x1 = -1 := by rw [hv]; exact nI_nm (by omega)
      rw [hv]
      rw [hv] at hne
      refine ⟨fun z => absurd z hne, fun _ => r_arrives h hs hd hy hget (fun I6 h6 f6 => ?_)⟩
      obtain ⟨Z, h6⟩ := h6
      obtain ⟨a1, a2, a3⟩ := come_ok hs hd hy
      obtain ⟨p1, p2⟩ := ps_come hs hd hy
      have e9 : sN (come (setY A ys) y.1 y.2.2.1) 0 9 = sN A 0 9 := p1.1
      have yd' : YD (come (setY A ys) y.1 y.2.2.1) (sN (come (setY A ys) y.1 y.2.2.1) 0 9) := by
        rw [e9]
        exact p1.yd (fun z hz => hyd z (by rw [hy]; exact List.mem_cons_of_mem _ hz)) (by show sN A 0 9 ≤ sN A 0 9 + 1; omega)
      have du' : due (come (setY A ys) y.1 y.2.2.1) ≤ n := by
        rw [p1.du]
        have : due A = due (setY A ys) + 1 := by
          unfold due
          rw [hy, List.countP_cons_of_pos (by simp; omega)]
        omega
      have ea : arr (n + 1) A = arr n (come (setY A ys) y.1 y.2.2.1) := by
        show (match sY A with | [] => A | y :: ys => if y.2.2.2 ≤ sN A 0 9 then arr n (come (setY A ys) y.1 y.2.2.1) else A) = _
        rw [hy]
        simp only
        rw [if_pos (by omega)]
      rw [ea] at hk
      refine r_today h6 a1 a2 (by omega) yd' (fun g => ?_) (fun k' y' ys' g1 g2 g3 => ?_)
      · exact ih _ I6 Z _ h6 a1 a2 yd' du' (by omega) (Or.inl ⟨rfl, g⟩) (fun I' h' f' => hk I' h' (f6.tr f'))
      · exact ih _ I6 Z _ h6 a1 a2 yd' du' (by omega) (Or.inr ⟨k', y', ys', rfl, g1, g2, g3⟩) (fun I' h' f' => hk I' h' (f6.tr f'))
theorem lendF_s (A : St) (c b : Nat) : lendF A c (b + 1) = (match lendF A c b with
    | none => if 4 * b + c % 4 ≠ c ∧ sN A 1 3 < sN A 10 (4 * b + c % 4) then some b else none
    | some q => if 4 * b + c % 4 ≠ c ∧ sN A 1 3 < sN A 10 (4 * b + c % 4) ∧ sN A 6 b < sN A 6 q then some b else some q) := rfl
theorem lendF_no {A : St} {c b : Nat} (h : ¬ (4 * b + c % 4 ≠ c ∧ sN A 1 3 < sN A 10 (4 * b + c % 4))) : lendF A c (b + 1) = lendF A c b := by
  rw [lendF_s]
  cases hb : lendF A c b with
  | none => simp only; rw [if_neg h]
  | some q => simp only; rw [if_neg (fun g => h ⟨g.1, g.2.1⟩)]
theorem rd6 {A : St} {I : MI} {Y : List (Nat × Nat × Nat × Nat)} (h : RR I A Y) {b : Nat} (hb : b < 3) : I 337 (29 + b) = nI (sN A 6 b) := h.n (j := 6) (i := b) (by unfold rd; simp; omega)
theorem ri10 {q p : Nat} (hp : p < 4) : ri 10 (4 * q + p) = 62 + (3 * q + p) := by
  show 62 + (3 * ((4 * q + p) / 4) + (4 * q + p) % 4) = _
  omega
theorem ri8 {q p : Nat} (hp : p < 4) : ri 8 (4 * q + p) = 41 + (3 * q + p) := by
  show 41 + (3 * ((4 * q + p) / 4) + (4 * q + p) % 4) = _
  omega
theorem ti12 {q p : Nat} (hp : p < 4) : ti 12 (4 * q + p) = 83 + (3 * q + p) := by
  unfold ti
  rw [if_neg (by omega)]
  omega
theorem td12 {c : Nat} (hc : c < 12) (h3 : c % 4 < 3) : td 12 c = true := by
  unfold td
  simp
  omega
theorem r_lender {I : MI} {A : St} {Y : List (Nat × Nat × Nat × Nat)} {c : Nat} {Q : Int32 → Prop} (h : RR I A Y) (hs : SetOk A) (hd : DynOk A) (hc : vc A c) (hQ : ∀ q, lendF A c (sN A 1 1) = some q → Q (nI q)) (hQ0 : lendF A c (sN A 1 1) = none → Q (-1)) : wp_X10_lender I (nI (c / 4)) (nI (c % 4)) Q := by
  have hc12 := vc_lt hs hc
  have hb3 := hs.1.2.1
  have hkeep := hs.1.2.2.2.2.1
  have e1 : I 337 1 = nI (sN A 1 1) := h.n (j := 1) (i := 1) (by decide)
  have e3 : I 337 3 = nI (sN A 1 3) := h.n (j := 1) (i := 3) (by decide)
  have i1 : ix 1 = 1 := by decide
  have key : ∀ (m b : Nat) (x3 : Int32), b + m = sN A 1 1 → (lendF A c b = none → x3 = -1) → (∀ q, lendF A c b = some q → x3 = nI q) → lp_X10_lender_5 I (nI (c / 4)) (nI (c % 4)) Q (m + 1) x3 (nI b) := by
    intro m
    induction m with
    | zero =>
      intro b x3 hb hn hsm
      have hb : b = sN A 1 1 := by omega
      subst hb
      unfold lp_X10_lender_5
      rw [i1, e1]
      refine ⟨v1, fun _ => ?_, fun z => absurd (nI_le (Nat.le_refl _) (by omega)) z⟩
      cases hl : lendF A c (sN A 1 1) with
      | none => rw [hn hl]; exact hQ0 hl
      | some q => rw [hsm q hl]; exact hQ q hl
    | succ m ih =>
      intro b x3 hb hn hsm
      have hbl : b < 3 := by omega
      have skip : ¬ (4 * b + c % 4 ≠ c ∧ sN A 1 3 < sN A 10 (4 * b + c % 4)) → jn_X10_lender_75 x3 (nI b) (fun x4 x5 => (lp_X10_lender_5 I (nI (c / 4)) (nI (c % 4)) Q (m + 1) x4 x5)) := by
        intro hno
        unfold jn_X10_lender_75
        rw [nI_1]
        exact ih (b + 1) x3 (by omega) (by rw [lendF_no hno]; exact hn) (by rw [lendF_no hno]; exact hsm)
      have take : lendF A c (b + 1) = some b → jn_X10_lender_72 (nI b) (fun x4 x5 => (lp_X10_lender_5 I (nI (c / 4)) (nI (c % 4)) Q (m + 1) x4 x5)) := by
        intro hl
        unfold jn_X10_lender_72 jn_X10_lender_75
        rw [nI_1]
        exact ih (b + 1) (nI b) (by omega) (fun g => by rw [hl] at g; cases g) (fun q g => by rw [hl] at g; cases g; rfl)
      have g10 : I 337 (62 + (3 * b + c % 4)) = nI (sN A 10 (4 * b + c % 4)) := by
        rw [← ri10 (by omega)]
        exact h.n (rdc (by omega) (by omega) (by omega) (by omega))
      have hh := hand_le hd (c := 4 * b + c % 4) (by omega)
      have q1 := (hs.2.1 b (by omega)).2.2.2.2
      unfold lp_X10_lender_5
      rw [i1, e1]
      refine ⟨v1, fun z => absurd z (nI_ge (by omega) (by omega)), fun _ => pk_eq b (c / 4) (fun z => skip (fun g => g.1 (by omega))) (fun z => r_cellOf ?_)⟩
      rw [show (62 : Int32) + nI (3 * b + c % 4) = nI (62 + (3 * b + c % 4)) from nI_add 62 _, ix_nI (by omega), g10, show ix 3 = 3 from by decide, e3]
      refine ⟨vp_in_nI (by omega) (by omega), v3, pk_le (sN A 10 (4 * b + c % 4)) (sN A 1 3) (fun w => skip (fun g => by omega)) (fun w => ?_)⟩
      cases hl : lendF A c b with
      | none =>
        refine ⟨fun _ => take ?_, fun g => absurd (hn hl) g⟩
        rw [lendF_s, hl]
        simp only
        rw [if_pos ⟨by omega, w⟩]
      | some q =>
        have hq := (lendF_some _ _ hl).1
        have q2 := (hs.2.1 q (by omega)).2.2.2.2
        have hx := hsm q hl
        have hne : ¬ x3 = -1 := by rw [hx]; exact nI_nm (by omega)
        refine ⟨fun g => absurd g hne, fun _ => ?_⟩
        have hb29 : (29 : Int32) + nI b = nI (29 + b) := nI_add 29 b
        have hq29 : (29 : Int32) + x3 = nI (29 + q) := by rw [hx]; exact nI_add 29 q
        rw [hb29, hq29, ix_nI (by omega), ix_nI (by omega), rd6 h hbl, rd6 h (by omega)]
        refine ⟨vp_in_nI (by omega) (by omega), vp_in_nI (by omega) (by omega), pk_le (sN A 6 q) (sN A 6 b) (fun u => ?_) (fun u => take ?_)⟩
        · unfold jn_X10_lender_75
          rw [nI_1]
          have e : lendF A c (b + 1) = some q := by
            rw [lendF_s, hl]
            simp only
            rw [if_neg (by omega)]
          exact ih (b + 1) x3 (by omega) (fun g => by rw [e] at g; cases g) (fun q' g => by rw [e] at g; cases g; exact hx)
        · rw [lendF_s, hl]
          simp only
          rw [if_pos ⟨by omega, w, u⟩]
  unfold wp_X10_lender
  refine ⟨sN A 1 1 + 1, ?_⟩
  rw [← nI_0]
  exact key (sN A 1 1) 0 (-1) (by omega) (fun _ => rfl) (fun q g => by cases g)
theorem lends_s {n i : Nat} {A : St} {w : Nat × Nat × Nat} (hw : (sW A)[i]? = some w) : lends (n + 1) i A = if w.2.2 ≠ 0 then lends n (i + 1) A else match lendF A w.1 (sN A 1 1) with
      | none => lends n (i + 1) A
      | some q => lends n (i + 1) (lend1 A i w.1 q w) := by
  show (match (sW A)[i]? with
    | none => A
    | some w => if w.2.2 ≠ 0 then lends n (i + 1) A else match lendF A w.1 (sN A 1 1) with
      | none => lends n (i + 1) A
      | some q => lends n (i + 1) (lend1 A i w.1 q w)) = _
  rw [hw]
theorem r_lends {I : MI} {A : St} {Q : MI → Prop} (h : ∃ Y, RR I A Y) (hs : SetOk A) (hd : DynOk A) (hQ : ∀ I', (∃ Y, RR I' (lends (sW A).length 0 A) Y) → RF I I' → Q I') : wp_X10_lends I Q := by
  have i14 : ix 14 = 14 := by decide
  have key : ∀ (n i : Nat) (A : St) (I : MI), (∃ Y, RR I A Y) → SetOk A → DynOk A → i + n = (sW A).length → (∀ I', (∃ Y, RR I' (lends n i A) Y) → RF I I' → Q I') → lp_X10_lends_2 Q (n + 1) (nI i) I := by
    intro n
    induction n with
    | zero =>
      intro i A I h hs hd hi hQ
      obtain ⟨Y, h⟩ := h
      have e14 : I 337 14 = nI (sW A).length := h.2.1.1
      have hl := h.2.2.2.2.2.2.2.1
      unfold lp_X10_lends_2
      rw [i14, e14]
      exact ⟨v14, fun _ => hQ I ⟨Y, h⟩ RF.rf, fun z => absurd (nI_le (by omega) (by omega)) z⟩
    | succ n ih =>
      intro i A I h hs hd hi hQ
      obtain ⟨Y, h⟩ := h
      have e14 : I 337 14 = nI (sW A).length := h.2.1.1
      have hl := h.2.2.2.2.2.2.2.1
      have hlst := h.2.2.1
      have hil : i < (sW A).length := by omega
      obtain ⟨w, hg⟩ : ∃ w, (sW A)[i]? = some w := ⟨_, List.getElem?_eq_getElem hil⟩
      obtain ⟨hv, hwd, hwm⟩ := hd.2.2.2.1 w (List.mem_of_getElem? hg)
      have hc12 := vc_lt hs hv
      have hls := lends_s (n := n) hg
      rw [hls] at hQ
      have x0 : I 337 (92 + 4 * i) = nI (w.1 / 4) := hlst i _ hg 0 (by omega)
      have x1 : I 337 (92 + 4 * i + 1) = nI (w.1 % 4) := hlst i _ hg 1 (by omega)
      have x3 : I 337 (92 + 4 * i + 3) = nI w.2.2 := hlst i _ hg 3 (by omega)
      have nothing : (∀ I', (∃ Y, RR I' (lends n (i + 1) A) Y) → RF I I' → Q I') → jn_X10_lends_60 I (nI i) (nI (92 + 4 * i)) (nI (w.1 / 4)) (nI (w.1 % 4)) (-1) (fun x34 I35 => (lp_X10_lends_2 Q (n + 1) x34 I35)) := by
        intro hQ
        unfold jn_X10_lends_60 jn_X10_lends_177
        refine ⟨fun z => absurd rfl z, fun _ => ?_⟩
        rw [nI_1]
        exact ih (i + 1) A I ⟨Y, h⟩ hs hd (by omega) hQ
      unfold lp_X10_lends_2
      rw [i14, e14, z92, nI_1, nI_3, ix_nI (n := 92 + 4 * i) (by omega), ix_nI (n := 92 + 4 * i + 1) (by omega), ix_nI (n := 92 + 4 * i + 3) (by omega), x0, x1, x3]
      refine ⟨v14, fun z => absurd z (nI_ge (by omega) (by omega)), fun _ => ⟨vp_in_nI (by omega) (by omega), vp_in_nI (by omega) (by omega), vp_in_nI (by omega) (by omega), (pk_eq w.2.2 1 (fun z => ?_) (fun z => ?_)).symm⟩⟩
      · refine nothing ?_
        rw [if_pos (by omega)] at hQ
        exact hQ
      · rw [if_neg (by omega)] at hQ
        refine r_lender h hs hd hv (fun q hlq => ?_) (fun hlq => ?_)
        · rw [hlq] at hQ
          simp only at hQ
          obtain ⟨f1, f2, f3⟩ := lendF_some _ _ hlq
          have hb3 := hs.1.2.1
          have hf16 : 4 * q + w.1 % 4 < 16 := by omega
          have hrf := rdc (j := 10) (c := 4 * q + w.1 % 4) (by omega) (by omega) (by omega) (by omega)
          have htf := td12 (c := 4 * q + w.1 % 4) (by omega) (by omega)
          have htc := td12 hc12.1 hc12.2
          have hri := ri10 (q := q) (p := w.1 % 4) (by omega)
          have hti := ti12 (q := q) (p := w.1 % 4) (by omega)
          have htic : ti 12 w.1 = 83 + (3 * (w.1 / 4) + w.1 % 4) := by unfold ti; rw [if_neg (by omega)]
          obtain ⟨a1, a2⟩ := lendB_ok hs hd hg rfl hf16 (by omega)
          unfold jn_X10_lends_60
          refine ⟨fun _ => ?_, fun g => absurd g (nI_nm (by omega))⟩
          rw [nI_3, ix_nI (by omega)]
          refine ⟨vp_in_nI (by omega) (by omega), fun I10 e10 => r_cellOf ?_⟩
          rw [show (62 : Int32) + nI (3 * q + w.1 % 4) = nI (62 + (3 * q + w.1 % 4)) from nI_add 62 _, ix_nI (by omega)]
          refine ⟨vp_in_nI (by omega) (by omega), vp_in_nI (by omega) (by omega), fun I14 e14 => r_cellOf ?_⟩
          rw [show (83 : Int32) + nI (3 * q + w.1 % 4) = nI (83 + (3 * q + w.1 % 4)) from nI_add 83 _, ix_nI (by omega)]
          refine ⟨vp_in_nI (by omega) (by omega), vp_in_nI (by omega) (by omega), fun I18 e18 => r_cellOf ?_⟩
          rw [show (83 : Int32) + nI (3 * (w.1 / 4) + w.1 % 4) = nI (83 + (3 * (w.1 / 4) + w.1 % 4)) from nI_add 83 _, ix_nI (by omega)]
          refine ⟨vp_in_nI (by omega) (by omega), vp_in_nI (by omega) (by omega), fun I22 e22 => ⟨v11, v11, fun I25 e25 => ?_⟩⟩
          rw [show (29 : Int32) + nI q = nI (29 + q) from nI_add 29 _, show (29 : Int32) + nI (w.1 / 4) = nI (29 + w.1 / 4) from nI_add 29 _, ix_nI (by omega), ix_nI (by omega)]
          refine ⟨vp_in_nI (by omega) (by omega), vp_in_nI (by omega) (by omega), ?_⟩
          have h10 : RR I10 (setW A ((sW A).set i (w.1, w.2.1, 1))) Y := by
            refine h.putW (fun s hs hs2 => ?_) ?_ ?_ ?_
            · rw [e10, u2_n2 (by omega)]
            · rw [e10, u2_n2 (by omega), List.length_set]; exact h.2.1.1
            · intro k x hx q' hq'
              by_cases hki : k = i
              · subst hki
                rw [List.getElem?_set_self hil] at hx
                cases hx
                by_cases hq3 : q' = 3
                · subst hq3
                  rw [e10, u2_s]
                  rfl
                · rw [e10, u2_n2 (by omega), hlst k w hg q' hq']
                  unfold gW
                  simp only
                  by_cases g0 : q' = 0
                  · rw [if_pos g0, if_pos g0]
                  · rw [if_neg g0, if_neg g0]
                    by_cases g1 : q' = 1
                    · rw [if_pos g1, if_pos g1]
                    · rw [if_neg g1, if_neg g1, if_pos (by omega), if_pos (by omega)]
              · rw [List.getElem?_set_ne (fun g => hki g.symm)] at hx
                have := lt_of_get hx
                rw [e10, u2_n2 (by omega)]
                exact hlst k x hx q' hq'
            · rw [List.length_set]; exact hl
          have g10 : I10 337 (62 + (3 * q + w.1 % 4)) = nI (sN A 10 (4 * q + w.1 % 4)) := by rw [← hri]; exact h10.n hrf
          have e14' : I14 = u2 I10 337 (ri 10 (4 * q + w.1 % 4)) (nI (sN A 10 (4 * q + w.1 % 4) - 1)) := by
            rw [e14, g10, hri]
            congr 1
            obtain ⟨r, hr⟩ : ∃ r, sN A 10 (4 * q + w.1 % 4) = r + 1 := ⟨sN A 10 (4 * q + w.1 % 4) - 1, by omega⟩
            rw [hr, nI_pred]
            rfl
          have h14 := h10.putN hrf e14'
          have g12 : I14 337 (83 + (3 * q + w.1 % 4)) = sT A 12 (4 * q + w.1 % 4) := by rw [← hti]; exact h14.t htf
          rw [g12, ← hti] at e18
          have h18 := h14.putT htf e18
          have g22 : I18 337 (83 + (3 * (w.1 / 4) + w.1 % 4)) = u2 (sT A) 12 (4 * q + w.1 % 4) (sT A 12 (4 * q + w.1 % 4) - 1) 12 w.1 := by rw [← htic]; exact h18.t htc
          rw [g22, ← htic] at e22
          have h22 := h18.putT htc e22
          have g11 : I22 337 11 = sT A 0 17 := by
            rw [show I22 337 11 = _ from h22.t (j := 0) (i := 17) (by decide)]
            simp [sT, setT, setN, setW, u2_at]
          rw [show ix 11 = 11 from by decide, g11] at e25
          have h25 := h22.putT (j := 0) (i := 17) (by decide) e25
          have s6 : ∀ b, b < 3 → I25 337 (29 + b) = nI (sN A 6 b) := fun b hb => by
            rw [rd6 h25 hb]
            congr 1
          rw [s6 q (by omega), s6 (w.1 / 4) (by omega), nI_add]
          have f25 : RF I I25 := fun a ha => by rw [e25, u2_ne ha, e22, u2_ne ha, e18, u2_ne ha, e14, u2_ne ha, e10, u2_ne ha]
          have hYl : Y.length = (sY A).length := h.2.2.2.2.2.2.1.length_eq
          have hyl := hd.yl
          obtain ⟨b1, b2, b3, b4, b5, b6⟩ := lend1_ok hs hd hg rfl hlq
          refine r_begins (k := 4) (c := w.1) h25 (by omega) (by simp) (fun I29 h29 f29 => ?_)
          unfold jn_X10_lends_177
          rw [nI_1]
          have h29' : ∃ Y, RR I29 (lend1 A i w.1 q w) Y := by
            rw [lend1_eq rfl]
            exact ⟨_, h29⟩
          exact ih (i + 1) (lend1 A i w.1 q w) I29 h29' b1 b2 (by omega) (fun I' h' f' => hQ I' h' ((f25.tr f29).tr f'))
        · rw [hlq] at hQ
          exact nothing hQ
  unfold wp_X10_lends
  refine ⟨(sW A).length + 1, ?_⟩
  rw [← nI_0]
  exact key _ 0 A I h hs hd (by omega) hQ
theorem r_goesDay {I : MI} {A : St} {Q : MI → Prop} (h : ∃ Y, RR I A Y) (hs : SetOk A) (hd : DynOk A) (hr : Rest A) (h9 : sN A 0 9 < 10000) (hb : sN A 0 10 + 36000 < 2 ^ 30) (hQ : ∀ I', (∃ Y, RR I' (goDay A) Y) → RF I I' → Q I') : wp_X10_goesDay I Q := by
  obtain ⟨Y, h⟩ := h
  have e5 : I 337 5 = nI (sN A 0 9) := h.n (j := 0) (i := 9) (by decide)
  obtain ⟨a1, a2⟩ := day_ok (d := sN A 0 9 + 1) hs hd (by omega) (by omega)
  obtain ⟨b1, b2, b3⟩ := arr_ok 184 a1 a2
  have e9 : sN (setN A 0 9 (sN A 0 9 + 1)) 0 9 = sN A 0 9 + 1 := by simp [sN, setN, u2_at]
  have e10 : sN (setN A 0 9 (sN A 0 9 + 1)) 0 10 = sN A 0 10 := by simp [sN, setN, u2_at]
  have hyd : YD (setN A 0 9 (sN A 0 9 + 1)) (sN (setN A 0 9 (sN A 0 9 + 1)) 0 9) := by rw [e9]; exact hr.1
  have hyl := a2.yl
  have hdu : due (setN A 0 9 (sN A 0 9 + 1)) ≤ 184 := by
    unfold due
    have := List.countP_le_length (p := fun y : Nat × Nat × Nat × Nat => decide (y.2.2.2 ≤ sN (setN A 0 9 (sN A 0 9 + 1)) 0 9)) (l := sY (setN A 0 9 (sN A 0 9 + 1)))
    omega
  unfold wp_X10_goesDay
  rw [show ix 5 = 5 from by decide, e5, nI_1]
  refine ⟨v5, v5, fun I3 e3 => ?_⟩
  have h3 := h.putN (j := 0) (i := 9) (by decide) e3
  have fin : ∀ I', (∃ Z, RR I' (arr 184 (setN A 0 9 (sN A 0 9 + 1))) Z) → RF I3 I' → wp_X10_lends I' (fun I10 => (Q I10)) := fun I' h' f' =>
    r_lends h' b1 b2 (fun I10 h10 f10 => hQ I10 h10 (((RF.u e3).tr f').tr f10))
  refine r_today h3 a1 a2 (by omega) hyd (fun g => ⟨185, ?_⟩) (fun k y ys g1 g2 g3 => ⟨185, ?_⟩)
  · exact r_arrs 184 _ I3 Y _ h3 a1 a2 hyd hdu (by omega) (Or.inl ⟨rfl, g⟩) fin
  · exact r_arrs 184 _ I3 Y _ h3 a1 a2 hyd hdu (by omega) (Or.inr ⟨k, y, ys, rfl, g1, g2, g3⟩) fin
