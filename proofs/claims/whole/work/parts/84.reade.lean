/-! the class reads lines, the whole text, and begins anew -/
theorem pNums_le {t : Nat → Nat} {n : Nat} {B : St} : ∀ (c p i : Nat) (acc : List Nat) (f : Nat), i ≤ n → pNums t n B c p i acc = .inl f → f ≤ n
  | 0, p, i, acc, f, hi, h => by cases h
  | c + 1, p, i, acc, f, hi, h => by
    have g := skG_f (t := t) hi
    have d := skD_f (t := t) g.2.1
    unfold pNums at h
    cases ho : okN t n i (bd B p) with
    | true =>
      rw [ho] at h
      simp only [if_true] at h
      exact pNums_le c (p + 1) _ _ f d.2.1 h
    | false =>
      rw [ho] at h
      simp only [Bool.false_eq_true, if_false] at h
      cases h
      exact g.2.1
theorem pLine_le {t : Nat → Nat} {n : Nat} {B : St} {s f : Nat} (hs : s ≤ n) (h : pLine t n B s = .inl f) : f ≤ n := by
  unfold pLine at h
  cases hw : wdF t s (skL t n s) 7 0 with
  | none => rw [hw] at h; cases h; exact hs
  | some w =>
    rw [hw] at h
    simp only at h
    cases hm : many B w with
    | true => rw [hm] at h; simp only [if_true] at h; cases h; exact hs
    | false =>
      rw [hm] at h
      simp only [Bool.false_eq_true, if_false] at h
      have l := skL_f (t := t) hs
      cases hp : pNums t n B (numN w) (fstN w) (skL t n s) [] with
      | inl q => rw [hp] at h; cases h; exact pNums_le _ _ _ _ _ l.2.1 hp
      | inr q =>
        rw [hp] at h
        simp only at h
        have g := skG_f (t := t) (pNums_len _ _ _ _ q l.2.1 hp).2.2.1
        cases hz : isS t n (skG t n q.2) with
        | false => rw [hz] at h; simp only [Bool.false_eq_true, if_false] at h; cases h; exact g.2.1
        | true => rw [hz] at h; simp only [if_true] at h; cases h
theorem pAll_le {t : Nat → Nat} {n : Nat} : ∀ (f : Nat) (B : St) (i q : Nat), i ≤ n → pAll t n f B i = .inl q → q ≤ n
  | 0, B, i, q, hi, h => by cases h
  | f + 1, B, i, q, hi, h => by
    have g := skG_f (t := t) hi
    unfold pAll at h
    by_cases hz : skG t n i = n
    · rw [if_pos hz] at h; cases h
    · rw [if_neg hz] at h
      cases hl : pLine t n B (skG t n i) with
      | inl u => rw [hl] at h; cases h; exact pLine_le g.2.1 hl
      | inr r =>
        rw [hl] at h
        simp only at h
        exact pAll_le f r.1 r.2 q (pLine_adv g.2.1 hl).2 h
theorem PR.put {p : Nat} {I I' : MI} {B : St} {j i v : Nat} (h : PR p I B) (hj : j ≤ 8) (hn : nd (j + 1) i) (e : I' = u2 I (p + j) i (nI v)) : PR p I' (setN B (j + 1) i v) := by
  intro j' i' hn' hj'
  rw [e, u2_at, setN_at]
  by_cases hc : j' + 1 = j + 1 ∧ i' = i
  · rw [if_pos ⟨by omega, hc.2⟩, if_pos hc]
  · rw [if_neg (fun q => hc ⟨by omega, q.2⟩), if_neg hc]
    exact h j' i' hn' hj'
theorem PR.fr {p : Nat} {I I' : MI} {B : St} (h : PR p I B) (f : ∀ k, p ≤ k → k < p + 9 → I' k = I k) : PR p I' B := fun j i hn hj => by rw [f _ (by omega) (by omega)]; exact h j i hn hj
theorem c_clear {p : Nat} {I : MI} {Q : MI → Prop} (hQ : ∀ I', PR p I' B0 → (∀ k, (k < p ∨ p + 9 ≤ k) → I' k = I k) → Q I') : wp_X1_clear p I Q := by
  have k2 : ∀ (n i : Nat) (J : MI), i + n = 16 → (∀ s, s < 5 → J p s = if s = 2 then 1 else 0) → (∀ j s, 1 ≤ j → j ≤ 5 → s < 4 → J (p + j) s = 0) → (∀ j s, 6 ≤ j → j ≤ 8 → s < i → J (p + j) s = 0) → (∀ k, (k < p ∨ p + 9 ≤ k) → J k = I k) → lp_X1_clear_75 p Q (n + 1) (nI i) J := by
    intro n
    induction n with
    | zero =>
      intro i J hi h0 h1 h2 hf
      unfold lp_X1_clear_75
      refine ⟨fun _ => hQ J (fun j s hn hj => ?_) hf, fun z => absurd ?_ z⟩
      · have hb : sN B0 (j + 1) s = if j + 1 = 1 ∧ s = 2 then 1 else 0 := rfl
        rw [hb]
        unfold nd at hn
        by_cases hj0 : j = 0
        · subst hj0
          rw [Nat.add_zero, h0 s (by omega)]
          by_cases hs : s = 2
          · rw [if_pos hs, if_pos ⟨by omega, hs⟩]; rfl
          · rw [if_neg hs, if_neg (fun q => hs q.2)]; rfl
        · rw [if_neg (by omega)]
          by_cases hj5 : j ≤ 5
          · rw [h1 j s (by omega) hj5 (by omega)]; rfl
          · rw [h2 j s (by omega) (by omega) (by omega)]; rfl
      · rw [show (16 : Int32) = nI 16 from rfl]; exact nI_le (by omega) (by omega)
    | succ n ih =>
      intro i J hi h0 h1 h2 hf
      unfold lp_X1_clear_75
      rw [show (16 : Int32) = nI 16 from rfl, ix_nI (by omega), nI_1]
      have vp : vp_in (nI i) 16 := vp_in_nI (by omega) (by omega)
      refine ⟨fun z => absurd z (nI_ge (by omega) (by omega)), fun _ => ⟨vp, fun Ja ea => ⟨vp, fun Jb eb => ⟨vp, fun Jc ec => ?_⟩⟩⟩⟩
      have at' : ∀ k s, (k < p + 6 ∨ p + 9 ≤ k) → Jc k s = J k s := fun k s hk => by rw [ec, u2_ne (by omega), eb, u2_ne (by omega), ea, u2_ne (by omega)]
      refine ih (i + 1) Jc (by omega) (fun s hs => by rw [at' _ _ (by omega)]; exact h0 s hs) (fun j s a b c => by rw [at' _ _ (by omega)]; exact h1 j s a b c) (fun j s a b c => ?_) (fun k hk => by funext s; rw [at' _ _ (by omega), hf k hk])
      by_cases hs : s = i
      · subst hs
        obtain rfl | rfl | rfl : j = 6 ∨ j = 7 ∨ j = 8 := by omega
        · rw [ec, u2_ne (by omega), eb, u2_ne (by omega), ea, u2_s]
        · rw [ec, u2_ne (by omega), eb, u2_s]
        · rw [ec, u2_s]
      · rw [ec, u2_at, if_neg (fun q => hs q.2), eb, u2_at, if_neg (fun q => hs q.2), ea, u2_at, if_neg (fun q => hs q.2)]
        exact h2 j s a b (by omega)
  have k1 : ∀ (n i : Nat) (J : MI), i + n = 4 → (∀ s, s < 5 → J p s = if s = 2 then 1 else 0) → (∀ j s, 1 ≤ j → j ≤ 5 → s < i → J (p + j) s = 0) → (∀ k, (k < p ∨ p + 9 ≤ k) → J k = I k) → lp_X1_clear_27 p (fun I18 => (∃ N26, lp_X1_clear_75 p Q N26 0 I18)) (n + 1) (nI i) J := by
    intro n
    induction n with
    | zero =>
      intro i J hi h0 h1 hf
      unfold lp_X1_clear_27
      refine ⟨fun _ => ⟨17, ?_⟩, fun z => absurd ?_ z⟩
      · rw [← nI_0]
        exact k2 16 0 J (by omega) h0 (fun j s a b c => h1 j s a b (by omega)) (fun j s a b c => absurd c (by omega)) hf
      · rw [show (4 : Int32) = nI 4 from rfl]; exact nI_le (by omega) (by omega)
    | succ n ih =>
      intro i J hi h0 h1 hf
      unfold lp_X1_clear_27
      rw [show (4 : Int32) = nI 4 from rfl, ix_nI (by omega), nI_1]
      have vp : vp_in (nI i) 4 := vp_in_nI (by omega) (by omega)
      refine ⟨fun z => absurd z (nI_ge (by omega) (by omega)), fun _ => ⟨vp, fun Ja ea => ⟨vp, fun Jb eb => ⟨vp, fun Jc ec => ⟨vp, fun Jd ed => ⟨vp, fun Je ee => ?_⟩⟩⟩⟩⟩⟩
      have at' : ∀ k s, (k < p + 1 ∨ p + 6 ≤ k) → Je k s = J k s := fun k s hk => by rw [ee, u2_ne (by omega), ed, u2_ne (by omega), ec, u2_ne (by omega), eb, u2_ne (by omega), ea, u2_ne (by omega)]
      refine ih (i + 1) Je (by omega) (fun s hs => by rw [at' _ _ (by omega)]; exact h0 s hs) (fun j s a b c => ?_) (fun k hk => by funext s; rw [at' _ _ (by omega), hf k hk])
      by_cases hs : s = i
      · subst hs
        obtain rfl | rfl | rfl | rfl | rfl : j = 1 ∨ j = 2 ∨ j = 3 ∨ j = 4 ∨ j = 5 := by omega
        · rw [ee, u2_ne (by omega), ed, u2_ne (by omega), ec, u2_ne (by omega), eb, u2_ne (by omega), ea, u2_s]
        · rw [ee, u2_ne (by omega), ed, u2_ne (by omega), ec, u2_ne (by omega), eb, u2_s]
        · rw [ee, u2_ne (by omega), ed, u2_ne (by omega), ec, u2_s]
        · rw [ee, u2_ne (by omega), ed, u2_s]
        · rw [ee, u2_s]
      · rw [ee, u2_at, if_neg (fun q => hs q.2), ed, u2_at, if_neg (fun q => hs q.2), ec, u2_at, if_neg (fun q => hs q.2), eb, u2_at, if_neg (fun q => hs q.2), ea, u2_at, if_neg (fun q => hs q.2)]
        exact h1 j s a b (by omega)
  unfold wp_X1_clear
  intro I1 e1 I2 e2 I3 e3 I4 e4 I5 e5
  refine ⟨5, ?_⟩
  rw [← nI_0]
  refine k1 4 0 I5 (by omega) (fun s hs => ?_) (fun j s a b c => absurd c (by omega)) (fun k hk => by rw [e5, u2_ne (by omega), e4, u2_ne (by omega), e3, u2_ne (by omega), e2, u2_ne (by omega), e1, u2_ne (by omega)])
  obtain rfl | rfl | rfl | rfl | rfl : s = 0 ∨ s = 1 ∨ s = 2 ∨ s = 3 ∨ s = 4 := by omega
  · rw [e5, u2_n2 (by omega), e4, u2_n2 (by omega), e3, u2_n2 (by omega), e2, u2_n2 (by omega), e1, u2_s]; rfl
  · rw [e5, u2_n2 (by omega), e4, u2_n2 (by omega), e3, u2_n2 (by omega), e2, u2_s]; rfl
  · rw [e5, u2_n2 (by omega), e4, u2_n2 (by omega), e3, u2_s]; rfl
  · rw [e5, u2_n2 (by omega), e4, u2_s]; rfl
  · rw [e5, u2_s]; rfl
/-- what reading changes -/
def FT (I I' : MI) : Prop := (∀ k, (k < 312 ∨ 323 ≤ k) → I' k = I k) ∧ ∀ s, s ≠ 4 → I' 312 s = I 312 s
theorem FT.rf {I : MI} : FT I I := ⟨fun _ _ => rfl, fun _ _ => rfl⟩
theorem FT.tr {I J K : MI} (h : FT I J) (h2 : FT J K) : FT I K := ⟨fun k a => (h2.1 k a).trans (h.1 k a), fun i hi => (h2.2 i hi).trans (h.2 i hi)⟩
theorem FN.ft {I I' : MI} (h : FN I I') : FT I I' := ⟨fun k hk => by funext s; exact h k s (by omega) (by omega), fun s hs => h 312 s (by omega) (by omega)⟩
theorem FA.ft {I I' : MI} (h : FA I I') : FT I I' := h.fn.ft
theorem FT.ct {I I' : MI} {t : Nat → Nat} {n : Nat} (f : FT I I') (h : CT I t n) : CT I' t n := h.fr (fun s => by rw [f.1 1 (by omega)])
theorem c_take {I : MI} {B : St} {w : Nat} {v : List Nat} {Q : MI → Prop} (hP : PR 313 I B) (hs : SetOk B) (hw : w < 7) (hm : many B w = false) (hv : ∀ q, q < numN w → (bd B (fstN w + q)).1 ≤ v.getD q 0 ∧ v.getD q 0 < (bd B (fstN w + q)).2) (hN : ∀ q, q < numN w → I 322 q = nI (v.getD q 0)) (hQ : ∀ I', PR 313 I' (takeW B w v) → (∀ k, (k < 313 ∨ 322 ≤ k) → I' k = I k) → Q I') : wp_X3_take I (nI w) Q := by
  have hm := of_decide_eq_false hm
  have hs1 := hs.1.1
  have hs2 := hs.1.2.1
  have z0 : vp_in 0 5 := vp_in_nI (n := 0) (by omega) (by omega)
  have z1 : vp_in 1 5 := vp_in_nI (n := 1) (by omega) (by omega)
  have z2 : vp_in 2 5 := vp_in_nI (n := 2) (by omega) (by omega)
  have z3 : vp_in 3 5 := vp_in_nI (n := 3) (by omega) (by omega)
  have z4 : vp_in 4 5 := vp_in_nI (n := 4) (by omega) (by omega)
  have i0 : ix 0 = 0 := by decide
  have i1 : ix 1 = 1 := by decide
  have i2 : ix 2 = 2 := by decide
  have i3 : ix 3 = 3 := by decide
  have i4 : ix 4 = 4 := by decide
  have no : ∀ {a b : Nat}, a < 7 → b < 7 → a ≠ b → ¬ nI a = nI b := fun ha hb h g => h ((nI_eq (by omega) (by omega)).mp g)
  unfold wp_X3_take
  rw [i0]
  obtain rfl | rfl | rfl | rfl | rfl | rfl | rfl : w = 0 ∨ w = 1 ∨ w = 2 ∨ w = 3 ∨ w = 4 ∨ w = 5 ∨ w = 6 := by omega
  · refine ⟨fun _ => ⟨z0, fun I3 e3 => ?_⟩, fun g => absurd rfl g⟩
    rw [hN 0 (by decide)] at e3
    exact hQ I3 (hP.put (j := 0) (i := 2) (by omega) (nd1 (by omega)) e3) (fun k hk => by rw [e3, u2_ne (by omega)])
  · refine ⟨fun g => absurd g (by decide), fun _ => ⟨fun _ => ⟨z0, fun I3 e3 => ?_⟩, fun g => absurd rfl g⟩⟩
    rw [hN 0 (by decide)] at e3
    exact hQ I3 (hP.put (j := 0) (i := 3) (by omega) (nd1 (by omega)) e3) (fun k hk => by rw [e3, u2_ne (by omega)])
  · refine ⟨fun g => absurd g (by decide), fun _ => ⟨fun g => absurd g (by decide), fun _ => ⟨fun _ => ⟨z0, fun I3 e3 => ?_⟩, fun g => absurd rfl g⟩⟩⟩
    rw [hN 0 (by decide)] at e3
    exact hQ I3 (hP.put (j := 0) (i := 4) (by omega) (nd1 (by omega)) e3) (fun k hk => by rw [e3, u2_ne (by omega)])
  · refine ⟨fun g => absurd g (by decide), fun _ => ⟨fun g => absurd g (by decide), fun _ => ⟨fun g => absurd g (by decide), fun _ => ⟨fun _ => ?_, fun g => absurd rfl g⟩⟩⟩⟩
    have hp : sN B 1 0 ≤ 2 := by omega
    have e0 : I 313 0 = nI (sN B 1 0) := hP 0 0 (nd1 (by omega)) (by omega)
    unfold wp_X3_takePart
    rw [e0, nI_m3, Nat.mod_eq_of_lt (by omega), ix_nI (by omega), i0, i1, i2, hN 0 (by decide)]
    have vp : vp_in (nI (sN B 1 0)) 4 := vp_in_nI (by omega) (by omega)
    refine ⟨z0, vp, fun I3 e3 => ?_⟩
    have g3 : I3 313 0 = nI (sN B 1 0) := by rw [e3, u2_ne (by omega)]; exact e0
    have n3 : I3 322 1 = nI (v.getD 1 0) := by rw [e3, u2_ne (by omega)]; exact hN 1 (by decide)
    rw [n3]
    refine ⟨z1, vp, fun I6 e6 => ?_⟩
    have g6 : I6 313 0 = nI (sN B 1 0) := by rw [e6, u2_ne (by omega)]; exact g3
    have n6 : I6 322 2 = nI (v.getD 2 0) := by rw [e6, u2_ne (by omega), e3, u2_ne (by omega)]; exact hN 2 (by decide)
    rw [n6]
    refine ⟨z2, vp, fun I9 e9 I10 e10 => ?_⟩
    have g9 : I9 313 0 = nI (sN B 1 0) := by rw [e9, u2_ne (by omega)]; exact g6
    rw [g9, nI_1] at e10
    have h3 := hP.put (j := 1) (i := sN B 1 0) (by omega) (ndp (by omega) (by omega) (by omega)) e3
    have h6 := h3.put (j := 2) (i := sN B 1 0) (by omega) (ndp (by omega) (by omega) (by omega)) e6
    have h9 := h6.put (j := 3) (i := sN B 1 0) (by omega) (ndp (by omega) (by omega) (by omega)) e9
    have h10 := h9.put (j := 0) (i := 0) (by omega) (nd1 (by omega)) e10
    exact hQ I10 h10 (fun k hk => by rw [e10, u2_ne (by omega), e9, u2_ne (by omega), e6, u2_ne (by omega), e3, u2_ne (by omega)])
  · refine ⟨fun g => absurd g (by decide), fun _ => ⟨fun g => absurd g (by decide), fun _ => ⟨fun g => absurd g (by decide), fun _ => ⟨fun g => absurd g (by decide), fun _ => ⟨fun _ => ?_, fun g => absurd rfl g⟩⟩⟩⟩⟩
    have hp : sN B 1 1 ≤ 2 := by omega
    have e0 : I 313 1 = nI (sN B 1 1) := hP 0 1 (nd1 (by omega)) (by omega)
    unfold wp_X3_takeBase
    rw [e0, nI_m3, Nat.mod_eq_of_lt (by omega), ix_nI (by omega), i0, hN 0 (by decide)]
    have vp : vp_in (nI (sN B 1 1)) 4 := vp_in_nI (by omega) (by omega)
    refine ⟨z0, vp, fun I3 e3 I4 e4 => ?_⟩
    have g3 : I3 313 1 = nI (sN B 1 1) := by rw [e3, u2_ne (by omega)]; exact e0
    rw [g3, nI_1] at e4
    have h3 := hP.put (j := 5) (i := sN B 1 1) (by omega) (ndp (by omega) (by omega) (by omega)) e3
    have h4 := h3.put (j := 0) (i := 1) (by omega) (nd1 (by omega)) e4
    exact hQ I4 h4 (fun k hk => by rw [e4, u2_ne (by omega), e3, u2_ne (by omega)])
  · refine ⟨fun g => absurd g (by decide), fun _ => ⟨fun g => absurd g (by decide), fun _ => ⟨fun g => absurd g (by decide), fun _ => ⟨fun g => absurd g (by decide), fun _ => ⟨fun g => absurd g (by decide), fun _ => ⟨fun _ => ?_, fun g => absurd rfl g⟩⟩⟩⟩⟩⟩
    have a0 : v.getD 0 0 < sN B 1 1 := (hv 0 (by decide)).2
    have a1 : v.getD 1 0 < sN B 1 0 := (hv 1 (by decide)).2
    unfold wp_X3_takeCell
    rw [i0, i1, hN 0 (by decide), hN 1 (by decide)]
    refine ⟨z0, z1, s_placeOf ?_⟩
    have h16 : 4 * v.getD 0 0 + v.getD 1 0 < 16 := by omega
    have vp : vp_in (nI (4 * v.getD 0 0 + v.getD 1 0)) 16 := vp_in_nI h16 (by omega)
    rw [nI_m15, Nat.mod_eq_of_lt h16, ix_nI (by omega), i2, i3, i4, hN 2 (by decide)]
    refine ⟨z2, vp, fun I6 e6 => ⟨z3, vp, fun I9 e9 => ⟨z4, vp, fun I12 e12 => ?_⟩⟩⟩
    have n6 : I6 322 3 = nI (v.getD 3 0) := by rw [e6, u2_ne (by omega)]; exact hN 3 (by decide)
    rw [n6] at e9
    have n9 : I9 322 4 = nI (v.getD 4 0) := by rw [e9, u2_ne (by omega), e6, u2_ne (by omega)]; exact hN 4 (by decide)
    rw [n9] at e12
    have h6 := hP.put (j := 6) (i := 4 * v.getD 0 0 + v.getD 1 0) (by omega) (nd7 h16) e6
    have h9 := h6.put (j := 7) (i := 4 * v.getD 0 0 + v.getD 1 0) (by omega) (nd8 h16) e9
    have h12 := h9.put (j := 8) (i := 4 * v.getD 0 0 + v.getD 1 0) (by omega) (nd9 h16) e12
    exact hQ I12 h12 (fun k hk => by rw [e12, u2_ne (by omega), e9, u2_ne (by omega), e6, u2_ne (by omega)])
  · refine ⟨fun g => absurd g (by decide), fun _ => ⟨fun g => absurd g (by decide), fun _ => ⟨fun g => absurd g (by decide), fun _ => ⟨fun g => absurd g (by decide), fun _ => ⟨fun g => absurd g (by decide), fun _ => ⟨fun g => absurd g (by decide), fun _ => ?_⟩⟩⟩⟩⟩⟩
    have a0 : v.getD 0 0 < sN B 1 0 := (hv 0 (by decide)).2
    rw [i1, hN 0 (by decide), hN 1 (by decide), nI_m3, Nat.mod_eq_of_lt (by omega), ix_nI (by omega)]
    refine ⟨z0, z1, vp_in_nI (by omega) (by omega), fun I19 e19 => ?_⟩
    exact hQ I19 (hP.put (j := 4) (i := v.getD 0 0) (by omega) (ndp (by omega) (by omega) (by omega)) e19) (fun k hk => by rw [e19, u2_ne (by omega)])
section CREAE
variable {t : Nat → Nat} {n : Nat}
theorem c_tooMany {I : MI} {B : St} {w : Nat} {Q : Int32 → Prop} (hP : PR 313 I B) (hs : SetOk B) (hw : w < 7) (h1 : many B w = true → Q 1) (h0 : many B w = false → Q 0) : wp_X3_isOneTooMany I (nI w) Q := by
  have hs1 := hs.1.1
  have hs2 := hs.1.2.1
  have e0 : I 313 0 = nI (sN B 1 0) := hP 0 0 (nd1 (by omega)) (by omega)
  have e1 : I 313 1 = nI (sN B 1 1) := hP 0 1 (nd1 (by omega)) (by omega)
  unfold wp_X3_isOneTooMany jn_X3_isOneTooMany_16
  rw [e0, e1]
  refine (pk_eq w 3 (fun a => ?_) (fun a => (pk_eq w 4 (fun b => pk_lt (sN B 1 1) 3 (fun c => h0 ?_) (fun c => h1 ?_)) (fun b => h0 ?_)).symm)).symm
  · refine pk_le 3 (sN B 1 0) (fun c => h1 ?_) (fun c => (pk_eq w 4 (fun b => by omega) (fun b => h0 ?_)).symm)
    · unfold many; exact decide_eq_true (Or.inl ⟨a, c⟩)
    · unfold many; exact decide_eq_false (fun g => by omega)
  · unfold many; exact decide_eq_false (fun g => by omega)
  · unfold many; exact decide_eq_true (Or.inr ⟨b, c⟩)
  · unfold many; exact decide_eq_false (fun g => by omega)
theorem c_readOne {I : MI} {B : St} {s : Nat} {Q : Int32 → MI → Prop} (hT : CT I t n) (h3 : I 312 3 = nI n) (h4 : I 312 4 = nI s) (hs : s ≤ n) (hP : PR 313 I B) (hB : SetOk B) (h0 : ∀ f I', pLine t n B s = .inl f → FT I I' → Q (nI f) I') (h1 : ∀ r I', pLine t n B s = .inr r → FT I I' → PR 313 I' r.1 → I' 312 4 = nI r.2 → Q (-1) I') : wp_X3_readOne I Q := by
  have hn := hT.1
  have l := skL_f (t := t) hs
  unfold wp_X3_readOne
  refine c_readWord hT h3 h4 hs (fun I1 w f1 e1 hw => ⟨fun z => absurd z ?_, fun _ => ?_⟩) (fun I1 f1 hw => ⟨fun _ => ?_, fun z => absurd rfl z⟩)
  · have := wdF_lt _ _ _ hw
    exact nI_nm (by omega)
  · have hw7 : w < 7 := by have := wdF_lt _ _ _ hw; omega
    obtain ⟨-, ft2, ft3, ft4⟩ := fstT w hw7
    rw [h4]
    refine c_tooMany (f1.fn.pr hP) hB hw7 (fun hm => ⟨fun z => absurd z (by decide), fun _ => h0 s I1 ?_ f1.ft⟩) (fun hm => ⟨fun _ => ?_, fun z => absurd rfl z⟩)
    · unfold pLine
      rw [hw]
      simp only
      rw [hm]
      rfl
    · have pl : pLine t n B s = (match pNums t n B (numN w) (fstN w) (skL t n s) [] with
          | .inl f => .inl f
          | .inr r => if isS t n (skG t n r.2) then .inr (takeW B w r.1, skG t n r.2 + 1) else .inl (skG t n r.2)) := by
        unfold pLine
        rw [hw]
        simp only
        rw [hm]
        rfl
      have key : ∀ (m i a : Nat) (acc : List Nat) (J : MI), i + m = numN w → acc.length = i → FN I1 J → J 312 4 = nI a → a ≤ n → (∀ q, q < i → J 322 q = nI (acc.getD q 0)) → pNums t n B m (fstN w + i) a acc = pNums t n B (numN w) (fstN w) (skL t n s) [] → lp_X3_readOne_27 (nI w) Q (fun I12 => (wp_X3_skipGaps I12 (fun I13 => ((((I13 312 3) ≤ (I13 312 4) → Q (I13 312 4) I13) ∧ (¬ (I13 312 3) ≤ (I13 312 4) → (vp_in (I13 312 4) 400 ∧ (((I13 1 (ix (I13 312 4))) = 59 → (∀ I17, I17 = u2 I13 312 4 ((I13 312 4) + 1) → (wp_X3_take I17 (nI w) (fun I18 => (Q (-1) I18))))) ∧ (¬ (I13 1 (ix (I13 312 4))) = 59 → Q (I13 312 4) I13))))))))) (m + 1) (nI i) J := by
        intro m
        induction m with
        | zero =>
          intro i a acc J hi hacc fJ e4 ha hN hp
          have fIJ : FN I J := f1.fn.tr fJ
          have e3 : J 312 3 = nI n := by rw [fIJ 312 3 (by omega) (by omega)]; exact h3
          unfold lp_X3_readOne_27 wp_X7_numbersOf
          rw [ix_nI (by omega), ft2]
          refine ⟨fun z => absurd z (nI_pos (by omega)), fun _ => ⟨fun z => absurd z ?_, fun _ => ⟨vp_in_nI hw7 (by omega), fun _ => ?_, fun z => absurd (nI_le (by omega) (by omega)) z⟩⟩⟩
          · rw [show (7 : Int32) = nI 7 from rfl]; exact nI_ge hw7 (by omega)
          · have g := skG_f (t := t) ha
            have hp' : pNums t n B (numN w) (fstN w) (skL t n s) [] = .inr (acc, a) := by rw [← hp]; rfl
            rw [hp'] at pl
            simp only at pl
            refine c_skip (fIJ.ct hT) e3 e4 ha (fun I13 f13 e13 => ?_)
            have f0 : FN I I13 := fIJ.tr f13.fn
            have e3' : I13 312 3 = nI n := by rw [f0 312 3 (by omega) (by omega)]; exact h3
            rw [e3', e13]
            refine pk_le n (skG t n a) (fun z => h0 _ I13 ?_ f0.ft) (fun z => ⟨vp_in_nI (by omega) (by omega), ?_⟩)
            · rw [pl]
              have : isS t n (skG t n a) = false := by unfold isS; exact decide_eq_false (fun q => by omega)
              rw [this]
              rfl
            · have b := (f0.ct hT).2 (skG t n a) z
              rw [ix_nI (by omega), b.2]
              have sc := (sbF _ b.1).2.2.1
              refine ⟨fun y I17 e17 => ?_, fun y => h0 _ I13 ?_ f0.ft⟩
              · have hz : isS t n (skG t n a) = true := by unfold isS; exact decide_eq_true ⟨z, sc.mp y⟩
                rw [hz] at pl
                simp only [if_true] at pl
                rw [nI_1] at e17
                have f17 : FA I13 I17 := FA.u e17
                have f07 : FN I I17 := f0.tr f17.fn
                have hlen := pNums_len _ _ _ _ _ l.2.1 hp'
                refine c_take (v := acc) (f07.pr hP) hB hw7 hm (fun q hq => ?_) (fun q hq => ?_) (fun I18 p18 g18 => ?_)
                · have := hlen.2.2.2.2 q hq
                  rw [List.length_nil, Nat.zero_add] at this
                  exact this
                · rw [f17 322 q (by omega), f13 322 q (by omega)]
                  exact hN q (by omega)
                · have hnA := g18 312 (by omega)
                  refine h1 _ I18 pl (f07.ft.tr ⟨fun k hk => g18 k (by omega), fun q hq => by rw [hnA]⟩) p18 ?_
                  rw [hnA, e17, u2_s]
              · rw [pl]
                have : isS t n (skG t n a) = false := by unfold isS; exact decide_eq_false (fun q => y (sc.mpr q.2))
                rw [this]
                rfl
        | succ m ih =>
          intro i a acc J hi hacc fJ e4 ha hN hp
          have fIJ : FN I J := f1.fn.tr fJ
          have e3 : J 312 3 = nI n := by rw [fIJ 312 3 (by omega) (by omega)]; exact h3
          have g := skG_f (t := t) ha
          have dd := skD_f (t := t) g.2.1
          unfold lp_X3_readOne_27 wp_X7_numbersOf
          rw [ix_nI (by omega), ft2]
          refine ⟨fun z => absurd z (nI_pos (by omega)), fun _ => ⟨fun z => absurd z ?_, fun _ => ⟨vp_in_nI hw7 (by omega), fun z => absurd z (nI_ge (by omega) (by omega)), fun _ => ?_⟩⟩⟩
          · rw [show (7 : Int32) = nI 7 from rfl]; exact nI_ge hw7 (by omega)
          · have hps : pNums t n B (m + 1) (fstN w + i) a acc = if okN t n a (bd B (fstN w + i)) then pNums t n B m (fstN w + i + 1) (skD t n (skG t n a)) (acc ++ [dv t (skG t n a) (skD t n (skG t n a))]) else .inl (skG t n a) := rfl
            refine c_readNumber (fIJ.ct hT) e3 e4 ha (fIJ.pr hP) hB.1.1 hB.1.2.1 hw7 (by omega) (fun ho I9 f9 n9 m9 e9 => ⟨fun _ => ?_, fun z => absurd rfl z⟩) (fun ho I9 f9 => ⟨fun z => absurd z (nI_nm (by omega)), fun _ => h0 _ I9 ?_ (fIJ.tr f9).ft⟩)
            · rw [hps, ho] at hp
              simp only [if_true] at hp
              rw [nI_1]
              refine ih (i + 1) _ _ I9 (by omega) (by rw [List.length_append, List.length_singleton]; omega) (fJ.tr f9) e9 dd.2.1 (fun q hq => ?_) hp
              by_cases hqi : q = i
              · rw [hqi, m9]
                simp [List.getD, ← hacc]
              · rw [n9 q hqi, hN q (by omega)]
                simp only [List.getD]
                rw [List.getElem?_append_left (by omega)]
            · rw [hps, ho] at hp
              simp only [Bool.false_eq_true, if_false] at hp
              rw [pl, ← hp]
      refine ⟨numN w + 1, ?_⟩
      rw [← nI_0]
      exact key (numN w) 0 (skL t n s) [] I1 (by omega) rfl (fun _ _ _ _ => rfl) e1 l.2.1 (fun q hq => absurd hq (by omega)) rfl
  · rw [h4]
    refine h0 s I1 ?_ f1.ft
    unfold pLine
    rw [hw]
theorem c_readAll {I : MI} {Q : Int32 → MI → Prop} (hT : CT I t n) (h0 : ∀ f I', pAll t n (n + 1) B0 0 = .inl f → (∀ k, (k < 312 ∨ 323 ≤ k) → I' k = I k) → Q (nI f) I') (h1 : ∀ B I', pAll t n (n + 1) B0 0 = .inr B → (∀ k, (k < 312 ∨ 323 ≤ k) → I' k = I k) → PR 313 I' B → Q (-1) I') : wp_X3_readAll I (nI n) Q := by
  have hn := hT.1
  unfold wp_X3_readAll
  intro I1 e1 I2 e2
  have em : (if (400 : Int32) < nI n then 400 else nI n) = nI n := if_neg (show ¬ nI 400 < nI n from nI_nlt hn (by omega))
  rw [em] at e1
  refine c_clear (fun I3 p3 f3 => ⟨n + 2, ?_⟩)
  have g3 : I3 312 3 = nI n := by rw [f3 312 (by omega), e2, u2_n2 (by omega), e1, u2_s]
  have g4 : I3 312 4 = nI 0 := by rw [f3 312 (by omega), e2, u2_s]; rfl
  have fr3 : ∀ k, (k < 312 ∨ 323 ≤ k) → I3 k = I k := fun k hk => by rw [f3 k (by omega), e2, u2_ne (by omega), e1, u2_ne (by omega)]
  have hT3 : CT I3 t n := hT.fr (fun s => by rw [fr3 1 (by omega)])
  have key : ∀ (m i a : Nat) (B : St) (J : MI), i + m = n + 1 → FT I3 J → J 312 4 = nI a → a ≤ n → PR 313 J B → SetOk B → St9 B → pAll t n m B a = pAll t n (n + 1) B0 0 → lp_X3_readAll_29 Q (m + 1) (nI i) J := by
    intro m
    induction m with
    | zero =>
      intro i a B J hi f e4 ha hP hB h9 hp
      have e3 : J 312 3 = nI n := by rw [f.2 3 (by omega)]; exact g3
      unfold lp_X3_readAll_29
      rw [e3]
      refine ⟨fun _ => h1 B J hp.symm (fun k hk => by rw [f.1 k hk, fr3 k hk]) hP, fun z => absurd (nI_lt (by omega) (by omega)) z⟩
    | succ m ih =>
      intro i a B J hi f e4 ha hP hB h9 hp
      have e3 : J 312 3 = nI n := by rw [f.2 3 (by omega)]; exact g3
      have g := skG_f (t := t) ha
      unfold lp_X3_readAll_29
      rw [e3]
      refine ⟨fun z => absurd z (nI_nlt (by omega) (by omega)), fun _ => c_skip (f.ct hT3) e3 e4 ha (fun I5 f5 e5 => ?_)⟩
      have f35 : FT I3 I5 := f.tr f5.ft
      have e3' : I5 312 3 = nI n := by rw [f35.2 3 (by omega)]; exact g3
      have hps : pAll t n (m + 1) B a = if skG t n a = n then .inr B else match pLine t n B (skG t n a) with
          | .inl q => .inl q
          | .inr r => pAll t n m r.1 r.2 := rfl
      rw [e3', e5]
      refine pk_lt (skG t n a) n (fun z => ?_) (fun z => ?_)
      · rw [hps, if_neg (by omega)] at hp
        refine c_readOne (f35.ct hT3) e3' e5 g.2.1 (f5.fn.pr hP) hB (fun q I8 hl f8 => ⟨fun z => absurd z (nI_nm ?_), fun _ => ?_⟩) (fun r I8 hl f8 p8 e8 => ⟨fun _ => ?_, fun z => absurd rfl z⟩)
        · have := pLine_le g.2.1 hl
          omega
        · rw [hl] at hp
          exact h0 q I8 hp.symm (fun k hk => by rw [f8.1 k hk, f35.1 k hk, fr3 k hk])
        · rw [hl] at hp
          simp only at hp
          obtain ⟨b1, b2⟩ := pLine_ok g.2.1 hB h9 hl
          have c := pLine_adv g.2.1 hl
          rw [nI_1]
          exact ih (i + 1) r.2 r.1 I8 (by omega) (f35.tr f8) e8 c.2 p8 b1 b2 hp
      · rw [hps, if_pos (by omega)] at hp
        exact h1 B I5 hp.symm (fun k hk => by rw [f35.1 k hk, fr3 k hk]) (f5.fn.pr hP)
  rw [← nI_0]
  exact key (n + 1) 0 0 B0 I3 (by omega) FT.rf g4 (Nat.zero_le _) p3 B0_ok.1 B0_ok.2 rfl
end CREAE
