/-- what is told and the day stay, and no way is added but such as come later than today -/
def PS (A B : St) : Prop := sN B 0 9 = sN A 0 9 ∧ (∀ j, 1 ≤ j → j ≤ 9 → sN B j = sN A j) ∧ ∀ P : Nat × Nat × Nat × Nat → Bool, (∀ y, sN A 0 9 < y.2.2.2 → P y = false) → (sY B).countP P = (sY A).countP P
theorem PS.rf {A : St} : PS A A := ⟨rfl, fun _ _ _ => rfl, fun _ _ => rfl⟩
theorem PS.tr {A B D : St} (h : PS A B) (h2 : PS B D) : PS A D :=
  ⟨h2.1.trans h.1, fun j a b => (h2.2.1 j a b).trans (h.2.1 j a b), fun P hP => (h2.2.2 P (fun y hy => hP y (by rw [← h.1]; exact hy))).trans (h.2.2 P hP)⟩
theorem PS.beg {A : St} {k c d : Nat} (hd : 1 ≤ d) : PS A (begW A k c d) := by
  refine ⟨begW_9, fun j h1 _ => begW_Nj (by omega), fun P hP => ?_⟩
  rw [begW_Y, insY_countP, hP _ (by show _ < _ + _; omega)]
  rfl
theorem ps_answ : ∀ (n : Nat) {A : St} {p : Nat}, SetOk A → DynOk A → p < 4 → PS A (answ n A p) ∧ sQ (answ n A p) = sQ A ∧ sN (answ n A p) 0 11 = sN A 0 11
  | 0, A, p, _, _, _ => ⟨PS.rf, rfl, rfl⟩
  | n + 1, A, p, hs, h, hp => by
    unfold answ
    by_cases h0 : sN A 13 p = 0
    · rw [if_pos h0]; exact ⟨PS.rf, rfl, rfl⟩
    · rw [if_neg h0]
      cases hk : callNext A p with
      | none => exact ⟨PS.rf, rfl, rfl⟩
      | some k =>
        simp only
        obtain ⟨c, hc, hcp⟩ := callNext_get hk
        rw [hc]
        simp only
        obtain ⟨a1, a2, a3, a4⟩ := answ1_ok hs h hp (by omega) hc
        obtain ⟨b1, b2, b3⟩ := ps_answ n a1 a2 hp
        have hv := (h.2.2.2.2.1 c (List.mem_of_getElem? hc)).1
        have hship := hs.2.2.2.1 (c.1 / 4) hv.1
        have e : PS A (answ1 A p k c.1) := by
          unfold answ1
          refine PS.tr (B := setT (setN (setC A ((sC A).eraseIdx k)) 13 p (sN A 13 p - 1)) 0 18 (sT A 0 18 + 1)) ⟨?_, fun j h1 h2 => ?_, fun P hP => rfl⟩ (PS.beg hship)
          · simp [sN, setN, u2_at]
          · funext i; simp [sN, setN, u2_at]; omega
        have eq : sQ (answ1 A p k c.1) = sQ A := by unfold answ1; rw [begW_Q]
        have e11 : sN (answ1 A p k c.1) 0 11 = sN A 0 11 := by
          unfold answ1
          rw [begW_11]
          simp [sN, setN, u2_at]
        exact ⟨e.tr b1, b2.trans eq, b3.trans e11⟩
/-- the benches are full, or none waits -/
def fullQ (A : St) : Prop := sQ A = [] ∨ sN A 1 2 ≤ sN A 0 11
theorem ps_fill : ∀ (n : Nat) {A : St}, SetOk A → DynOk A → PS A (fill n A) ∧ (sN A 1 2 ≤ n + sN A 0 11 → fullQ (fill n A))
  | 0, A, _, _ => ⟨PS.rf, fun h => Or.inr (by show sN A 1 2 ≤ sN A 0 11; omega)⟩
  | n + 1, A, hs, h => by
    unfold fill
    by_cases h0 : sN A 1 2 ≤ sN A 0 11
    · rw [if_pos h0]; exact ⟨PS.rf, fun _ => Or.inr h0⟩
    · rw [if_neg h0]
      cases hq : sQ A with
      | nil => exact ⟨PS.rf, fun _ => Or.inl hq⟩
      | cons p qs =>
        simp only
        obtain ⟨a1, a2, a3⟩ := fill1_ok hs h hq
        obtain ⟨b1, b2⟩ := fill2_ok hs h hq
        have hwork := (hs.2.2.1 p a3).2
        have e : PS A (begW (setQ A qs) 2 p (sN A 4 p)) := PS.tr (B := setQ A qs) ⟨rfl, fun _ _ _ => rfl, fun _ _ => rfl⟩ (PS.beg hwork)
        obtain ⟨c1, c2⟩ := ps_fill n b1 b2
        refine ⟨e.tr c1, fun hle => c2 ?_⟩
        rw [begW_11, begW_Nj (by omega)]
        show sN A 1 2 ≤ n + (sN A 0 11 + 1)
        omega
theorem fill_full {A : St} (h : fullQ A) : ∀ n, fill n A = A
  | 0 => rfl
  | n + 1 => by
    unfold fill
    by_cases h0 : sN A 1 2 ≤ sN A 0 11
    · rw [if_pos h0]
    · rw [if_neg h0]
      rcases h with h | h
      · rw [h]
      · exact absurd h h0
theorem fullQ_fill {A : St} (hs : SetOk A) (h : DynOk A) : fullQ (fill 3 A) := (ps_fill 3 hs h).2 (by have := hs.1.2.2.2.1; omega)
theorem ps_recv {A : St} {c : Nat} : PS A (recv A c) ∧ sQ (recv A c) = sQ A ∧ sN (recv A c) 0 11 = sN A 0 11 := by
  cases hi : wIdx1 A c with
  | none =>
    rw [recv_none hi]
    refine ⟨⟨?_, fun j h1 h2 => ?_, fun P hP => rfl⟩, rfl, ?_⟩
    · simp [sN, setN, u2_at]
    · funext i; simp [sN, setN, u2_at]; omega
    · simp [sN, setN, u2_at]
  | some k =>
    obtain ⟨w, hw, hc⟩ := wIdx1_some hi
    rw [recv_some hi hw]
    refine ⟨⟨?_, fun j h1 h2 => ?_, fun P hP => rfl⟩, rfl, ?_⟩
    · simp [recvW, sN, setN, u2_at]
    · funext i; simp [recvW, sN, setN, u2_at]; omega
    · simp [recvW, sN, setN, u2_at]
theorem ps_come {A : St} {y : Nat × Nat × Nat × Nat} {ys : List (Nat × Nat × Nat × Nat)} (hs : SetOk A) (h : DynOk A) (hy : sY A = y :: ys) : PS (setY A ys) (come (setY A ys) y.1 y.2.2.1) ∧ (fullQ A → fullQ (come (setY A ys) y.1 y.2.2.1)) := by
  have hparts := hs.1.1
  unfold come
  by_cases hk1 : y.1 = 1
  · rw [if_pos hk1]
    have a := come1_ok hs h hy hk1
    have b := ps_fill 3 (A := setQ (setY A ys) (sQ A ++ [y.2.2.1 % 4])) (hs.same (fun _ _ _ => rfl)) a
    refine ⟨PS.tr (B := setQ (setY A ys) (sQ A ++ [y.2.2.1 % 4])) ⟨rfl, fun _ _ _ => rfl, fun _ _ => rfl⟩ b.1, fun _ => ?_⟩
    exact fullQ_fill (A := setQ (setY A ys) (sQ A ++ [y.2.2.1 % 4])) (hs.same (fun _ _ _ => rfl)) a
  · rw [if_neg hk1]
    by_cases hk2 : y.1 = 2
    · rw [if_pos hk2]
      obtain ⟨a1, a2⟩ := come2_ok hs h hy hk2
      obtain ⟨b1, b2, b3⟩ := answ_ok (sC (come2A A ys (y.2.2.1 % 4))).length a2 a1 (p := y.2.2.1 % 4) (by omega)
      obtain ⟨c1, c2, c3⟩ := ps_answ (sC (come2A A ys (y.2.2.1 % 4))).length a2 a1 (p := y.2.2.1 % 4) (by omega)
      have d := ps_fill 3 b1 b2
      refine ⟨PS.tr (B := come2A A ys (y.2.2.1 % 4)) ⟨?_, fun j h1 h2 => ?_, fun P hP => rfl⟩ (c1.tr d.1), fun _ => fullQ_fill b1 b2⟩
      · simp [sN, setN, u2_at]
      · funext i; simp [sN, setN, u2_at]; rw [if_neg (by omega), if_neg (by omega)]
    · rw [if_neg hk2]
      obtain ⟨a1, a2, a3⟩ := ps_recv (A := setY A ys) (c := y.2.2.1)
      refine ⟨a1, fun hf => ?_⟩
      unfold fullQ
      rw [a2, a3, a1.2.1 1 (by omega) (by omega)]
      exact hf
/-- how many ways come up to today -/
def due (A : St) : Nat := (sY A).countP (fun y => decide (y.2.2.2 ≤ sN A 0 9))
def YD (A : St) (m : Nat) : Prop := ∀ y ∈ sY A, m ≤ y.2.2.2
theorem PS.yd {A B : St} {m : Nat} (h : PS A B) (hy : YD A m) (hm : m ≤ sN A 0 9 + 1) : YD B m := by
  have h1 : (sY A).countP (fun y => decide (y.2.2.2 < m)) = 0 := by
    rw [List.countP_eq_zero]
    intro y h2 h3
    have := hy y h2
    simp at h3
    omega
  have h2 := h.2.2 (fun y => decide (y.2.2.2 < m)) (fun y hy => by simp; omega)
  rw [h1, List.countP_eq_zero] at h2
  intro y hy
  have := h2 y hy
  simp at this
  exact this
theorem PS.du {A B : St} (h : PS A B) : due B = due A := by
  unfold due
  rw [h.1]
  exact h.2.2 _ (fun y hy => by simp; omega)
theorem arr_ps : ∀ (n : Nat) {A : St}, SetOk A → DynOk A → sN (arr n A) 0 9 = sN A 0 9 ∧ (∀ j, 1 ≤ j → j ≤ 9 → sN (arr n A) j = sN A j) ∧ (fullQ A → fullQ (arr n A)) ∧ (YD A (sN A 0 9) → due A ≤ n → YD (arr n A) (sN A 0 9 + 1))
  | 0, A, hs, h => ⟨rfl, fun _ _ _ => rfl, fun h => h, fun h1 h2 y hy => by
      have h3 : due A = 0 := Nat.le_zero.mp h2
      unfold due at h3
      rw [List.countP_eq_zero] at h3
      have := h3 y hy
      simp at this
      omega⟩
  | n + 1, A, hs, h => by
    unfold arr
    cases hy : sY A with
    | nil => exact ⟨rfl, fun _ _ _ => rfl, fun h => h, fun _ _ y hy' => by rw [hy] at hy'; cases hy'⟩
    | cons y ys =>
      simp only
      by_cases hd : y.2.2.2 ≤ sN A 0 9
      · rw [if_pos hd]
        obtain ⟨a1, a2, a3⟩ := come_ok hs h hy
        obtain ⟨p1, p2⟩ := ps_come hs h hy
        obtain ⟨b1, b2, b3, b4⟩ := arr_ps n a1 a2
        have e9 : sN (come (setY A ys) y.1 y.2.2.1) 0 9 = sN A 0 9 := p1.1
        refine ⟨b1.trans e9, fun j h1 h2 => (b2 j h1 h2).trans (p1.2.1 j h1 h2), fun hf => b3 (p2 hf), fun hyd hdu => ?_⟩
        rw [e9] at b4
        refine b4 (p1.yd (fun z hz => hyd z (by rw [hy]; exact List.mem_cons_of_mem _ hz)) (by show sN A 0 9 ≤ sN A 0 9 + 1; omega)) ?_
        rw [p1.du]
        have : due A = due (setY A ys) + 1 := by
          unfold due
          rw [hy, List.countP_cons_of_pos (by simpa using hd)]
        omega
      · rw [if_neg hd]
        refine ⟨rfl, fun _ _ _ => rfl, fun h => h, fun hyd hdu z hz => ?_⟩
        have hp := h.2.2.2.2.2.2.2.2.2.2.1
        rw [hy] at hz hp
        rcases List.mem_cons.mp hz with rfl | hz
        · omega
        · have := (List.pairwise_cons.mp hp).1 z hz
          unfold ltY at this
          omega
-- nothing more can be lent
theorem lendF_none_iff {A : St} {c : Nat} : ∀ (n : Nat), lendF A c n = none ↔ ∀ b, b < n → ¬ (4 * b + c % 4 ≠ c ∧ sN A 1 3 < sN A 10 (4 * b + c % 4))
  | 0 => ⟨fun _ b hb => absurd hb (by omega), fun _ => rfl⟩
  | n + 1 => by
    have ih := lendF_none_iff (A := A) (c := c) n
    unfold lendF
    cases hl : lendF A c n with
    | none =>
      simp only
      rw [hl] at ih
      have ih := ih.mp rfl
      by_cases hc : 4 * n + c % 4 ≠ c ∧ sN A 1 3 < sN A 10 (4 * n + c % 4)
      · rw [if_pos hc]
        exact ⟨fun h => (by cases h), fun h => absurd hc (h n (by omega))⟩
      · rw [if_neg hc]
        refine ⟨fun _ b hb => ?_, fun _ => rfl⟩
        by_cases hbn : b = n
        · rw [hbn]; exact hc
        · exact ih b (by omega)
    | some q =>
      simp only
      obtain ⟨f1, f2, f3⟩ := lendF_some _ _ hl
      constructor
      · intro h
        split at h <;> cases h
      · intro h
        exact absurd ⟨f2, f3⟩ (h q (by omega))
def NL (A : St) : Prop := ∀ w ∈ sW A, w.2.2 = 0 → lendF A w.1 (sN A 1 1) = none
theorem ps_lend1 {A : St} {i c q : Nat} {w : Nat × Nat × Nat} (hs : SetOk A) (h : DynOk A) (hw : (sW A)[i]? = some w) (hc : w.1 = c) (hl : lendF A c (sN A 1 1) = some q) : PS A (lend1 A i c q w) ∧ sQ (lend1 A i c q w) = sQ A ∧ sN (lend1 A i c q w) 0 11 = sN A 0 11 ∧ (∀ k, sN (lend1 A i c q w) 10 k ≤ sN A 10 k) ∧ sW (lend1 A i c q w) = (sW A).set i (w.1, w.2.1, 1) := by
  obtain ⟨f1, f2, f3⟩ := lendF_some _ _ hl
  have hship := hs.2.2.2.1 q f1
  rw [lend1_eq hc]
  refine ⟨PS.tr (B := lendB A i c (4 * q + c % 4) w) ⟨?_, fun j h1 h2 => ?_, fun P hP => rfl⟩ (PS.beg (by omega)), ?_, ?_, fun k => ?_, ?_⟩
  · simp [sN, setN, u2_at]
  · funext i; simp [sN, setN, u2_at]; omega
  · rw [begW_Q]
  · rw [begW_11]; simp [sN, setN, u2_at]
  · rw [begW_Nj (by omega)]
    by_cases hk : k = 4 * q + c % 4
    · simp [sN, setN, u2_at, hk]
    · simp [sN, setN, u2_at, hk]
  · rw [begW_W]
theorem ps_lends : ∀ (n i : Nat) {A : St}, SetOk A → DynOk A → PS A (lends n i A) ∧ sQ (lends n i A) = sQ A ∧ sN (lends n i A) 0 11 = sN A 0 11 ∧ ((∀ (k : Nat) (w : Nat × Nat × Nat), k < i → (sW A)[k]? = some w → w.2.2 = 0 → lendF A w.1 (sN A 1 1) = none) → (sW A).length = i + n → NL (lends n i A))
  | 0, i, A, hs, h => ⟨PS.rf, rfl, rfl, fun h1 h2 w hw hm => by
      obtain ⟨k, hk⟩ := List.getElem?_of_mem hw
      have := lt_of_get hk
      have h2' : (sW A).length = i + 0 := h2
      exact h1 k w (by have h3 : k < (sW A).length := this; omega) hk hm⟩
  | n + 1, i, A, hs, h => by
    unfold lends
    cases hw : (sW A)[i]? with
    | none =>
      refine ⟨PS.rf, rfl, rfl, fun h1 h2 => ?_⟩
      have := List.getElem?_eq_none_iff.mp hw
      omega
    | some w =>
      simp only
      obtain ⟨s1, s2, s3, s4⟩ := ps_lends n (i + 1) hs h
      by_cases hm : w.2.2 ≠ 0
      · rw [if_pos hm]
        refine ⟨s1, s2, s3, fun h1 h2 => s4 (fun k v hk hv hv0 => ?_) (by omega)⟩
        by_cases hki : k = i
        · rw [hki, hw] at hv; cases hv; exact absurd hv0 hm
        · exact h1 k v (by omega) hv hv0
      · rw [if_neg hm]
        cases hl : lendF A w.1 (sN A 1 1) with
        | none =>
          simp only
          refine ⟨s1, s2, s3, fun h1 h2 => s4 (fun k v hk hv hv0 => ?_) (by omega)⟩
          by_cases hki : k = i
          · rw [hki, hw] at hv; cases hv; exact hl
          · exact h1 k v (by omega) hv hv0
        | some q =>
          simp only
          obtain ⟨a1, a2, a3, a4, a5, a6⟩ := lend1_ok hs h hw rfl hl
          obtain ⟨p1, p2, p3, p4, p5⟩ := ps_lend1 hs h hw rfl hl
          obtain ⟨b1, b2, b3, b4⟩ := ps_lends n (i + 1) a1 a2
          refine ⟨p1.tr b1, b2.trans p2, b3.trans p3, fun h1 h2 => b4 (fun k v hk hv hv0 => ?_) (by omega)⟩
          rw [p5] at hv
          by_cases hki : k = i
          · rw [hki, List.getElem?_set_self (lt_of_get hw)] at hv
            cases hv
            cases hv0
          · rw [List.getElem?_set_ne (fun z => hki z.symm)] at hv
            have := h1 k v (by omega) hv hv0
            rw [a6 1 (by omega) (by omega)]
            rw [lendF_none_iff] at this ⊢
            intro b hb hcon
            refine this b hb ⟨hcon.1, ?_⟩
            have := p4 (4 * b + v.1 % 4)
            rw [a6 1 (by omega) (by omega)] at hcon
            omega
/-- where nothing can be lent, lending does nothing -/
theorem lends_NL {A : St} (h : NL A) : ∀ (n i : Nat), lends n i A = A
  | 0, _ => rfl
  | n + 1, i => by
    unfold lends
    cases hw : (sW A)[i]? with
    | none => rfl
    | some w =>
      simp only
      by_cases hm : w.2.2 ≠ 0
      · rw [if_pos hm]; exact lends_NL h n (i + 1)
      · rw [if_neg hm, h w (List.mem_of_getElem? hw) (by omega)]
        exact lends_NL h n (i + 1)
