/-! pieces are kept: TP never grows but by a piece that comes from outside -/
theorem tot_set {A : St} {j i v n : Nat} (hi : i < n) : tot (sN (setN A j i v) j) n + sN A j i = tot (sN A j) n + v := by
  have h := tot_upd (f := sN A j) (g := sN (setN A j i v) j) (i := i) (fun k hk => by show u2 A.1 j i v j k = _; rw [u2_n2 hk]) n hi
  rw [show sN (setN A j i v) j i = v from u2_s] at h
  exact h
section TPS
variable {A : St}
theorem TP_13 {p v : Nat} (hp : p < 4) : TP (setN A 13 p v) + sN A 13 p = TP A + v := by
  have h := tot_set (A := A) (j := 13) (v := v) hp
  unfold TP
  rw [setN_ne (k := 10) (by omega), setN_ne (k := 7) (by omega), setN_ne (k := 11) (by omega)]
  show (sY A).length + (sQ A).length + _ + _ + _ + _ = _
  omega
theorem TP_10 {p v : Nat} (hp : p < 16) : TP (setN A 10 p v) + sN A 10 p = TP A + v := by
  have h := tot_set (A := A) (j := 10) (v := v) hp
  unfold TP
  rw [setN_ne (k := 13) (by omega), setN_ne (k := 7) (by omega), setN_ne (k := 11) (by omega)]
  show (sY A).length + (sQ A).length + _ + _ + _ + _ = _
  omega
theorem TP_11 {c v : Nat} (hc : c < 16) : TP (setN A 11 c v) + (sN A 7 c - sN A 11 c) = TP A + (sN A 7 c - v) := by
  have h := tot_upd (f := fun k => sN A 7 k - sN A 11 k) (g := fun k => sN A 7 k - sN (setN A 11 c v) 11 k) (i := c) (fun k hk => by
    show sN A 7 k - u2 A.1 11 c v 11 k = sN A 7 k - A.1 11 k
    rw [u2_n2 hk]) 16 hc
  rw [show sN (setN A 11 c v) 11 c = v from u2_s (f := A.1) (k := 11) (i := c) (v := v)] at h
  unfold TP
  rw [setN_ne (k := 13) (by omega), setN_ne (k := 7) (by omega), setN_ne (k := 10) (by omega)]
  show (sY A).length + (sQ A).length + _ + _ + _ + _ = _
  omega
theorem TP_lo {j i v : Nat} (hj : j ≠ 7) (h2 : j < 10) : TP (setN A j i v) = TP A := by
  unfold TP
  rw [setN_ne (k := 13) (by omega), setN_ne (k := 7) (by omega), setN_ne (k := 10) (by omega), setN_ne (k := 11) (by omega)]
theorem TP_Y {ys : List (Nat × Nat × Nat × Nat)} : TP (setY A ys) + (sY A).length = TP A + ys.length := by
  unfold TP
  show ys.length + (sQ A).length + tot (sN A 13) 4 + tot (sN A 10) 16 + tot (fun c => sN A 7 c - sN A 11 c) 16 + (sY A).length = _
  omega
theorem TP_Q {qs : List Nat} : TP (setQ A qs) + (sQ A).length = TP A + qs.length := by
  unfold TP
  show (sY A).length + qs.length + tot (sN A 13) 4 + tot (sN A 10) 16 + tot (fun c => sN A 7 c - sN A 11 c) 16 + (sQ A).length = _
  omega
theorem TP_begW {k c d : Nat} : TP (begW A k c d) = TP A + 1 := by
  unfold TP
  rw [begW_Y, begW_Q, insY_len, begW_Nj (j := 13) (by omega), begW_Nj (j := 10) (by omega), begW_Nj (j := 7) (by omega), begW_Nj (j := 11) (by omega)]
  omega
end TPS
theorem TP_answ : ∀ (n : Nat) (A : St) (p : Nat), p < 4 → TP (answ n A p) ≤ TP A
  | 0, A, p, _ => Nat.le_refl _
  | n + 1, A, p, hp => by
    unfold answ
    by_cases h0 : sN A 13 p = 0
    · rw [if_pos h0]; exact Nat.le_refl _
    · rw [if_neg h0]
      cases hk : callNext A p with
      | none => exact Nat.le_refl _
      | some k =>
        simp only
        cases hc : (sC A)[k]? with
        | none => exact Nat.le_refl _
        | some c =>
          simp only
          refine Nat.le_trans (TP_answ n _ p hp) ?_
          unfold answ1
          rw [TP_begW]
          have e : TP (setT (setN (setC A ((sC A).eraseIdx k)) 13 p (sN A 13 p - 1)) 0 18 (sT A 0 18 + 1)) + sN A 13 p = TP A + (sN A 13 p - 1) := TP_13 (A := setC A ((sC A).eraseIdx k)) hp
          omega
theorem TP_fill : ∀ (n : Nat) (A : St), TP (fill n A) ≤ TP A
  | 0, A => Nat.le_refl _
  | n + 1, A => by
    unfold fill
    by_cases h0 : sN A 1 2 ≤ sN A 0 11
    · rw [if_pos h0]; exact Nat.le_refl _
    · rw [if_neg h0]
      cases hq : sQ A with
      | nil => exact Nat.le_refl _
      | cons p qs =>
        simp only
        refine Nat.le_trans (TP_fill n _) ?_
        rw [TP_begW]
        have e := TP_Q (A := A) (qs := qs)
        rw [hq, List.length_cons] at e
        omega
theorem TP_recv {A : St} {c : Nat} (hc : c < 16) : TP (recv A c) ≤ TP A + 1 := by
  unfold recv
  cases hw : wIdx1 A c with
  | none =>
    simp only
    have := TP_10 (A := A) (v := sN A 10 c + 1) hc
    omega
  | some k =>
    simp only
    cases hg : (sW A)[k]? with
    | none => exact Nat.le_succ _
    | some w =>
      simp only
      have e : TP (recvW A c k w.2.1) + (sN A 7 c - sN A 11 c) = TP A + (sN A 7 c - (sN A 11 c - 1)) := TP_11 (A := setW A ((sW A).eraseIdx k)) hc
      omega
theorem pop16 {A : St} {y : Nat × Nat × Nat × Nat} {ys : List (Nat × Nat × Nat × Nat)} (hs : SetOk A) (h : DynOk A) (hy : sY A = y :: ys) : y.2.2.1 < 16 := by
  obtain ⟨h1, h2, h3⟩ := pop_facts h hy
  have hp := hs.1.1
  by_cases hk : y.1 = 2
  · have := h2 hk; omega
  · have := vc_lt hs (h3 hk); omega
theorem TP_come {A : St} {y : Nat × Nat × Nat × Nat} {ys : List (Nat × Nat × Nat × Nat)} (hy : sY A = y :: ys) (hc : y.2.2.1 < 16) : TP (come (setY A ys) y.1 y.2.2.1) ≤ TP A := by
  have e0 := TP_Y (A := A) (ys := ys)
  rw [hy, List.length_cons] at e0
  unfold come
  by_cases h1 : y.1 = 1
  · rw [if_pos h1]
    refine Nat.le_trans (TP_fill 3 _) ?_
    have e := TP_Q (A := setY A ys) (qs := sQ A ++ [y.2.2.1 % 4])
    rw [List.length_append, List.length_singleton] at e
    have e' : TP (setQ (setY A ys) (sQ A ++ [y.2.2.1 % 4])) + (sQ A).length = TP (setY A ys) + ((sQ A).length + 1) := e
    show TP (setQ (setY A ys) (sQ A ++ [y.2.2.1 % 4])) ≤ _
    omega
  · rw [if_neg h1]
    by_cases h2 : y.1 = 2
    · rw [if_pos h2]
      simp only
      refine Nat.le_trans (TP_fill 3 _) (Nat.le_trans (TP_answ _ _ _ (by omega)) ?_)
      have e := TP_13 (A := setN (setY A ys) 0 11 (sN A 0 11 - 1)) (p := y.2.2.1 % 4) (v := sN A 13 (y.2.2.1 % 4) + 1) (by omega)
      have e13 : sN (setN (setY A ys) 0 11 (sN A 0 11 - 1)) 13 = sN A 13 := setN_ne (A := setY A ys) (by omega)
      have e1 : TP (setN (setY A ys) 0 11 (sN A 0 11 - 1)) = TP (setY A ys) := TP_lo (by omega) (by omega)
      rw [e13, e1] at e
      have e' : TP (setN (setN (setY A ys) 0 11 (sN A 0 11 - 1)) 13 (y.2.2.1 % 4) (sN A 13 (y.2.2.1 % 4) + 1)) + sN A 13 (y.2.2.1 % 4) = TP (setY A ys) + (sN A 13 (y.2.2.1 % 4) + 1) := e
      show TP (setN (setN (setY A ys) 0 11 (sN A 0 11 - 1)) 13 (y.2.2.1 % 4) (sN A 13 (y.2.2.1 % 4) + 1)) ≤ _
      omega
    · rw [if_neg h2]
      have := TP_recv (A := setY A ys) hc
      omega
theorem TP_arr : ∀ (n : Nat) {A : St}, SetOk A → DynOk A → TP (arr n A) ≤ TP A
  | 0, A, _, _ => Nat.le_refl _
  | n + 1, A, hs, h => by
    unfold arr
    cases hy : sY A with
    | nil => exact Nat.le_refl _
    | cons y ys =>
      simp only
      by_cases hd : y.2.2.2 ≤ sN A 0 9
      · rw [if_pos hd]
        obtain ⟨a1, a2, _⟩ := come_ok hs h hy
        exact Nat.le_trans (TP_arr n a1 a2) (TP_come hy (pop16 hs h hy))
      · rw [if_neg hd]; exact Nat.le_refl _
theorem TP_lends : ∀ (n i : Nat) {A : St}, SetOk A → DynOk A → TP (lends n i A) ≤ TP A
  | 0, i, A, _, _ => Nat.le_refl _
  | n + 1, i, A, hs, h => by
    cases hw : (sW A)[i]? with
    | none =>
      have e : lends (n + 1) i A = A := by
        unfold lends
        rw [hw]
      rw [e]; exact Nat.le_refl _
    | some w =>
      rw [lends_s hw]
      by_cases h0 : w.2.2 ≠ 0
      · rw [if_pos h0]; exact TP_lends n (i + 1) hs h
      · rw [if_neg h0]
        cases hl : lendF A w.1 (sN A 1 1) with
        | none => exact TP_lends n (i + 1) hs h
        | some q =>
          simp only
          obtain ⟨b1, b2, _⟩ := lend1_ok hs h hw rfl hl
          refine Nat.le_trans (TP_lends n (i + 1) b1 b2) ?_
          obtain ⟨f1, f2, f3⟩ := lendF_some _ _ hl
          have hb3 := hs.1.2.1
          rw [lend1_eq rfl, TP_begW]
          have e : TP (lendB A i w.1 (4 * q + w.1 % 4) w) + sN A 10 (4 * q + w.1 % 4) = TP A + (sN A 10 (4 * q + w.1 % 4) - 1) := TP_10 (A := setW A ((sW A).set i (w.1, w.2.1, 1))) (by omega)
          omega
theorem TP_goDay {A : St} (hs : SetOk A) (h : DynOk A) (hd : sN A 0 9 < 10000) : TP (goDay A) ≤ TP A := by
  obtain ⟨a1, a2⟩ := day_ok (d := sN A 0 9 + 1) hs h (by omega) (by omega)
  obtain ⟨b1, b2, b3⟩ := arr_ok 184 a1 a2
  have e1 := TP_lends (sW (arr 184 (setN A 0 9 (sN A 0 9 + 1)))).length 0 b1 b2
  have e2 := TP_arr 184 a1 a2
  have e3 : TP (setN A 0 9 (sN A 0 9 + 1)) = TP A := TP_lo (by omega) (by omega)
  unfold goDay
  simp only
  omega
theorem TP_brkA {A : St} {c : Nat} (hc : c < 16) (h : canBr A c) : TP (brkA A c) + 1 ≤ TP A := by
  unfold canBr at h
  unfold brkA
  simp only
  by_cases h0 : sN A 10 c = 0
  · rw [if_pos h0]
    have e : TP (setW (setN (setT A 0 12 (sT A 0 12 + 1)) 11 c (sN A 11 c + 1)) (sW A ++ [(c, sN A 0 9, 0)])) + (sN A 7 c - sN A 11 c) = TP A + (sN A 7 c - (sN A 11 c + 1)) := TP_11 (A := setT A 0 12 (sT A 0 12 + 1)) hc
    have := tot_le (f := fun c => sN A 7 c - sN A 11 c) 16 hc
    omega
  · rw [if_neg h0]
    have e : TP (setT (setN (setT A 0 12 (sT A 0 12 + 1)) 10 c (sN A 10 c - 1)) 0 13 (sT A 0 13 + 1)) + sN A 10 c = TP A + (sN A 10 c - 1) := TP_10 (A := setT A 0 12 (sT A 0 12 + 1)) hc
    omega
theorem TP_brk {A : St} {c : Nat} (hc : c < 16) (h : canBr A c) : TP (brk A c) ≤ TP A := by
  have e := TP_brkA hc h
  by_cases h0 : sN A 3 (c % 4) = 0
  · rw [brk_send h0]
    refine Nat.le_trans (TP_answ _ _ _ (by omega)) ?_
    have : TP (brkC A c) = TP (begW (brkA A c) 1 c (sN A 6 (c / 4))) := rfl
    rw [this, TP_begW]
    exact e
  · rw [brk_mend h0, TP_begW]
    exact e
theorem TP_draw1 {A : St} {x : Int32} {c : Nat} (hc : c < 16) : TP (draw1 A x c) ≤ TP A := by
  unfold draw1
  by_cases h0 : nI (sN A 8 c) ≤ x
  · rw [if_pos h0]; exact Nat.le_refl _
  · rw [if_neg h0]
    by_cases h1 : sN A 11 c < sN A 7 c
    · rw [if_pos h1]; exact TP_brk hc h1
    · rw [if_neg h1]; exact Nat.le_refl _
theorem TP_drawP (f : Int32 → Int32 × Int32) : ∀ (n b p : Nat) (s : Int32 × St), 4 * b + p + n ≤ 16 → TP (drawP f n b p s).2 ≤ TP s.2
  | 0, b, p, s, _ => Nat.le_refl _
  | n + 1, b, p, s, h => Nat.le_trans (TP_drawP f n b (p + 1) ((f s.1).1, draw1 s.2 (f s.1).2 (4 * b + p)) (by omega)) (TP_draw1 (by omega))
theorem TP_drawB (f : Int32 → Int32 × Int32) : ∀ (n b : Nat) (s : Int32 × St), Good s.2 → b + n ≤ sN s.2 1 1 → TP (drawB f n b s).2 ≤ TP s.2
  | 0, b, s, _, _ => Nat.le_refl _
  | n + 1, b, s, hg, hb => by
    have h1 := hg.1.1.1
    have h2 := hg.1.1.2.1
    obtain ⟨a1, a2, _, _⟩ := drawP_ok f (sN s.2 1 0) b 0 s hg (by omega) (by omega)
    have e1 := a2 1 (by omega) (by omega)
    exact Nat.le_trans (TP_drawB f n (b + 1) (drawP f (sN s.2 1 0) b 0 s) a1 (by rw [e1]; omega)) (TP_drawP f _ b 0 s (by omega))
theorem TP_drawD (f : Int32 → Int32 × Int32) : ∀ (n : Nat) (s : Int32 × St), Good s.2 → sN s.2 0 9 + n ≤ 10000 → TP (drawD f n s).2 ≤ TP s.2
  | 0, s, _, _ => Nat.le_refl _
  | n + 1, s, hg, h9 => by
    obtain ⟨a1, a2, a3, a4⟩ := drawB_ok f (sN s.2 1 1) 0 s hg (by omega)
    obtain ⟨b1, b2, b3, b4⟩ := day1_ok f s hg (by omega)
    have e1 := TP_drawB f (sN s.2 1 1) 0 s hg (by omega)
    have e2 := TP_goDay a1.1 a1.2.1 (by omega)
    have e3 := TP_drawD f n ((drawB f (sN s.2 1 1) 0 s).1, goDay (drawB f (sN s.2 1 1) 0 s).2) b1 (by simp only; omega)
    exact Nat.le_trans e3 (Nat.le_trans e2 e1)
/-! what is played doesn't look at the stocks that are told -/
def stk (s : Nat → Nat) (A : St) : St := (fun j => if j = 9 then s else A.1 j, A.2)
section STK
variable {s : Nat → Nat} {A : St}
theorem stk_N {j : Nat} (h : j ≠ 9) : sN (stk s A) j = sN A j := by
  show (if j = 9 then s else A.1 j) = A.1 j
  rw [if_neg h]
theorem stk_setN {j i v : Nat} (h : j ≠ 9) : setN (stk s A) j i v = stk s (setN A j i v) := by
  show (u2 (stk s A).1 j i v, A.2) = (fun j' => if j' = 9 then s else u2 A.1 j i v j', A.2)
  congr 1
  funext j'
  by_cases h9 : j' = 9
  · rw [if_pos h9, u2_ne (by omega)]
    show (if j' = 9 then s else A.1 j') = s
    rw [if_pos h9]
  · rw [if_neg h9]
    funext b
    rw [u2_at, u2_at]
    by_cases hc : j' = j ∧ b = i
    · rw [if_pos hc, if_pos hc]
    · rw [if_neg hc, if_neg hc]
      show (if j' = 9 then s else A.1 j') b = _
      rw [if_neg h9]
theorem begW_eq {k c d : Nat} : begW A k c d = if k = 2 then setN (setN (setY A (insY (k, sN A 0 10, c, sN A 0 9 + d) (sY A))) 0 10 (sN A 0 10 + 1)) 0 11 (sN A 0 11 + 1) else setN (setY A (insY (k, sN A 0 10, c, sN A 0 9 + d) (sY A))) 0 10 (sN A 0 10 + 1) := rfl
theorem stk_Y {l : List (Nat × Nat × Nat × Nat)} : setY (stk s A) l = stk s (setY A l) := rfl
theorem stk_Q {l : List Nat} : setQ (stk s A) l = stk s (setQ A l) := rfl
theorem stk_C {l : List (Nat × Nat)} : setC (stk s A) l = stk s (setC A l) := rfl
theorem stk_W {l : List (Nat × Nat × Nat)} : setW (stk s A) l = stk s (setW A l) := rfl
theorem stk_T {j i : Nat} {v : Int32} : setT (stk s A) j i v = stk s (setT A j i v) := rfl
theorem stk_begW {k c d : Nat} : begW (stk s A) k c d = stk s (begW A k c d) := by
  rw [begW_eq, begW_eq, stk_N (show 0 ≠ 9 by omega)]
  by_cases h : k = 2
  · rw [if_pos h, if_pos h, stk_Y, stk_setN (by omega), stk_setN (by omega)]; rfl
  · rw [if_neg h, if_neg h, stk_Y, stk_setN (by omega)]; rfl
theorem stk_call {p : Nat} : callNext (stk s A) p = callNext A p := by
  unfold callNext hf
  rw [stk_N (show 1 ≠ 9 by omega), stk_N (show 11 ≠ 9 by omega)]
  rfl
end STK
theorem stk_answ {s : Nat → Nat} : ∀ (n : Nat) (A : St) (p : Nat), answ n (stk s A) p = stk s (answ n A p)
  | 0, A, p => rfl
  | n + 1, A, p => by
    unfold answ
    rw [stk_N (show 13 ≠ 9 by omega), stk_call]
    by_cases h0 : sN A 13 p = 0
    · rw [if_pos h0, if_pos h0]
    · rw [if_neg h0, if_neg h0]
      cases hk : callNext A p with
      | none => rfl
      | some k =>
        simp only
        rw [show sC (stk s A) = sC A from rfl]
        cases hc : (sC A)[k]? with
        | none => rfl
        | some c =>
          simp only
          rw [← stk_answ n]
          congr 1
          unfold answ1
          rw [stk_N (show 13 ≠ 9 by omega), stk_N (show 6 ≠ 9 by omega), stk_C, stk_setN (by omega), stk_T, stk_begW]; rfl
theorem stk_fill {s : Nat → Nat} : ∀ (n : Nat) (A : St), fill n (stk s A) = stk s (fill n A)
  | 0, A => rfl
  | n + 1, A => by
    unfold fill
    rw [stk_N (show 1 ≠ 9 by omega), stk_N (show 0 ≠ 9 by omega), show sQ (stk s A) = sQ A from rfl]
    by_cases h0 : sN A 1 2 ≤ sN A 0 11
    · rw [if_pos h0, if_pos h0]
    · rw [if_neg h0, if_neg h0]
      cases hq : sQ A with
      | nil => rfl
      | cons p qs =>
        simp only
        rw [stk_N (show 4 ≠ 9 by omega), stk_Q, stk_begW, stk_fill n]
theorem stk_recv {s : Nat → Nat} {A : St} {c : Nat} : recv (stk s A) c = stk s (recv A c) := by
  unfold recv
  rw [show wIdx1 (stk s A) c = wIdx1 A c from rfl, show sW (stk s A) = sW A from rfl]
  cases hw : wIdx1 A c with
  | none =>
    simp only
    rw [stk_N (show 10 ≠ 9 by omega), stk_setN (by omega)]
  | some k =>
    simp only
    cases hg : (sW A)[k]? with
    | none => rfl
    | some w =>
      simp only
      unfold recvW
      simp only
      rw [stk_N (show 11 ≠ 9 by omega), stk_N (show 0 ≠ 9 by omega), stk_W, stk_setN (by omega), stk_T, stk_T, stk_T]; rfl
theorem stk_come {s : Nat → Nat} {A : St} {k c : Nat} : come (stk s A) k c = stk s (come A k c) := by
  unfold come
  by_cases h1 : k = 1
  · rw [if_pos h1, if_pos h1, stk_Q, stk_fill]; rfl
  · rw [if_neg h1, if_neg h1]
    by_cases h2 : k = 2
    · rw [if_pos h2, if_pos h2]
      simp only
      rw [stk_N (show 0 ≠ 9 by omega), stk_N (show 13 ≠ 9 by omega), stk_setN (by omega), stk_setN (by omega), stk_answ, stk_fill]; rfl
    · rw [if_neg h2, if_neg h2, stk_recv]
theorem stk_arr {s : Nat → Nat} : ∀ (n : Nat) (A : St), arr n (stk s A) = stk s (arr n A)
  | 0, A => rfl
  | n + 1, A => by
    unfold arr
    rw [show sY (stk s A) = sY A from rfl, stk_N (show 0 ≠ 9 by omega)]
    cases hy : sY A with
    | nil => rfl
    | cons y ys =>
      simp only
      by_cases h0 : y.2.2.2 ≤ sN A 0 9
      · rw [if_pos h0, if_pos h0, stk_Y, stk_come, stk_arr n]
      · rw [if_neg h0, if_neg h0]
theorem stk_lendF {s : Nat → Nat} {A : St} {c : Nat} (n : Nat) : lendF (stk s A) c n = lendF A c n := lendF_congr (stk_N (by omega)) (stk_N (by omega)) (stk_N (by omega)) c n
theorem stk_lend1 {s : Nat → Nat} {A : St} {i c q : Nat} {w : Nat × Nat × Nat} (hc : w.1 = c) : lend1 (stk s A) i c q w = stk s (lend1 A i c q w) := by
  rw [lend1_eq hc, lend1_eq hc, stk_N (show 6 ≠ 9 by omega)]
  unfold lendB
  rw [stk_N (show 10 ≠ 9 by omega), stk_W, stk_setN (by omega), stk_T, stk_T, stk_T, stk_begW]; rfl
theorem stk_lends {s : Nat → Nat} : ∀ (n i : Nat) (A : St), lends n i (stk s A) = stk s (lends n i A)
  | 0, i, A => rfl
  | n + 1, i, A => by
    cases hw : (sW A)[i]? with
    | none =>
      unfold lends
      rw [show sW (stk s A) = sW A from rfl, hw]
    | some w =>
      rw [lends_s hw, lends_s (A := stk s A) hw, stk_lendF, stk_N (show 1 ≠ 9 by omega)]
      by_cases h0 : w.2.2 ≠ 0
      · rw [if_pos h0, if_pos h0, stk_lends n]
      · rw [if_neg h0, if_neg h0]
        cases hl : lendF A w.1 (sN A 1 1) with
        | none => simp only; rw [stk_lends n]
        | some q => simp only; rw [stk_lend1 rfl, stk_lends n]
theorem stk_goDay {s : Nat → Nat} {A : St} : goDay (stk s A) = stk s (goDay A) := by
  unfold goDay
  simp only
  rw [stk_N (show 0 ≠ 9 by omega), stk_setN (by omega), stk_arr, stk_lends]
  rfl
theorem stk_brkA {s : Nat → Nat} {A : St} {c : Nat} : brkA (stk s A) c = stk s (brkA A c) := by
  unfold brkA
  simp only
  rw [stk_N (show 10 ≠ 9 by omega), stk_N (show 11 ≠ 9 by omega), stk_N (show 0 ≠ 9 by omega), stk_T, stk_setN (by omega), stk_setN (by omega), stk_W, stk_T]
  by_cases h0 : sN A 10 c = 0
  · rw [if_pos h0, if_pos h0]; rfl
  · rw [if_neg h0, if_neg h0]; rfl
theorem stk_brk {s : Nat → Nat} {A : St} {c : Nat} : brk (stk s A) c = stk s (brk A c) := by
  have e3 : sN (stk s A) 3 = sN A 3 := stk_N (by omega)
  by_cases h0 : sN A 3 (c % 4) = 0
  · rw [brk_send h0, brk_send (by rw [e3]; exact h0)]
    have e : brkC (stk s A) c = stk s (brkC A c) := by
      unfold brkC
      rw [stk_brkA, stk_N (show 6 ≠ 9 by omega), stk_N (show 0 ≠ 9 by omega), stk_begW, stk_C]; rfl
    rw [e, stk_answ]; rfl
  · rw [brk_mend h0, brk_mend (by rw [e3]; exact h0), stk_brkA, e3, stk_begW]
theorem stk_draw1 {s : Nat → Nat} {A : St} {x : Int32} {c : Nat} : draw1 (stk s A) x c = stk s (draw1 A x c) := by
  unfold draw1
  rw [stk_N (show 8 ≠ 9 by omega), stk_N (show 11 ≠ 9 by omega), stk_N (show 7 ≠ 9 by omega), stk_brk]
  by_cases h0 : nI (sN A 8 c) ≤ x
  · rw [if_pos h0, if_pos h0]
  · rw [if_neg h0, if_neg h0]
    by_cases h1 : sN A 11 c < sN A 7 c
    · rw [if_pos h1, if_pos h1]
    · rw [if_neg h1, if_neg h1]
theorem stk_drawP {s : Nat → Nat} (f : Int32 → Int32 × Int32) : ∀ (n b p : Nat) (x : Int32) (A : St), drawP f n b p (x, stk s A) = ((drawP f n b p (x, A)).1, stk s (drawP f n b p (x, A)).2)
  | 0, b, p, x, A => rfl
  | n + 1, b, p, x, A => by
    show drawP f n b (p + 1) ((f x).1, draw1 (stk s A) (f x).2 (4 * b + p)) = _
    rw [stk_draw1, stk_drawP f n]
    rfl
theorem stk_drawB {s : Nat → Nat} (f : Int32 → Int32 × Int32) : ∀ (n b : Nat) (x : Int32) (A : St), drawB f n b (x, stk s A) = ((drawB f n b (x, A)).1, stk s (drawB f n b (x, A)).2)
  | 0, b, x, A => rfl
  | n + 1, b, x, A => by
    show drawB f n (b + 1) (drawP f (sN (stk s A) 1 0) b 0 (x, stk s A)) = _
    rw [stk_N (show 1 ≠ 9 by omega), stk_drawP f, stk_drawB f n]
    rfl
theorem stk_drawD {s : Nat → Nat} (f : Int32 → Int32 × Int32) : ∀ (n : Nat) (x : Int32) (A : St), drawD f n (x, stk s A) = ((drawD f n (x, A)).1, stk s (drawD f n (x, A)).2)
  | 0, x, A => rfl
  | n + 1, x, A => by
    show drawD f n ((drawB f (sN (stk s A) 1 1) 0 (x, stk s A)).1, goDay (drawB f (sN (stk s A) 1 1) 0 (x, stk s A)).2) = _
    rw [stk_N (show 1 ≠ 9 by omega), stk_drawB f, stk_goDay, stk_drawD f n]
    rfl
