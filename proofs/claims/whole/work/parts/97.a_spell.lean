/-! a plan as a text -/
def nmL (v : Nat) : List Nat := 32 :: (if v < 10 then [48 + v] else [48 + v / 10, 48 + v % 10])
theorem nmL_len (v : Nat) : (nmL v).length = if v < 10 then 2 else 3 := by
  unfold nmL
  by_cases h : v < 10 <;> simp [h]
def oneL (w v : Nat) : List Nat := wl w ++ nmL v ++ [59]
def partL (A : St) (p : Nat) : List Nat := wl 3 ++ nmL (sN A 2 p) ++ nmL (sN A 3 p) ++ nmL (sN A 4 p) ++ [59]
def cellL (A : St) (b p : Nat) : List Nat := if sN A 7 (4 * b + p) = 0 ∧ sN A 8 (4 * b + p) = 0 ∧ sN A 9 (4 * b + p) = 0 then [] else wl 5 ++ nmL b ++ nmL p ++ nmL (sN A 7 (4 * b + p)) ++ nmL (sN A 8 (4 * b + p)) ++ nmL (sN A 9 (4 * b + p)) ++ [59]
def workL (A : St) (p : Nat) : List Nat := if sN A 5 p = 0 then [] else wl 6 ++ nmL p ++ nmL (sN A 5 p) ++ [59]
def catL (g : Nat → List Nat) : Nat → List Nat
  | 0 => []
  | n + 1 => catL g n ++ g n
/-- the text of a plan -/
def spL (A : St) : List Nat := oneL 0 (sN A 1 2) ++ oneL 1 (sN A 1 3) ++ oneL 2 (sN A 1 4) ++ catL (partL A) (sN A 1 0) ++ catL (fun b => oneL 4 (sN A 6 b)) (sN A 1 1) ++ catL (fun b => catL (cellL A b) (sN A 1 0)) (sN A 1 1) ++ catL (workL A) (sN A 1 0)
theorem catL_len {g : Nat → List Nat} {k : Nat} : ∀ (n : Nat), (∀ i, i < n → (g i).length ≤ k) → (catL g n).length ≤ n * k
  | 0, _ => Nat.zero_le _
  | n + 1, h => by
    have a := catL_len n (fun i hi => h i (by omega))
    have b := h n (by omega)
    show (catL g n ++ g n).length ≤ _
    rw [List.length_append, Nat.succ_mul]
    omega
/-- what the class has written -/
def CS (I : MI) (l : List Nat) : Prop := I 324 1 = nI l.length ∧ ∀ (q : Nat) (x : Nat), l[q]? = some x → I 325 q = nI x
/-- what the reference has written -/
def MS (I : MI) (l : List Nat) : Prop := I 336 23 = nI l.length ∧ ∀ (q : Nat) (x : Nat), l[q]? = some x → I 348 q = nI x
def FS (I I' : MI) : Prop := (∀ k, k ≠ 324 → k ≠ 325 → I' k = I k) ∧ ∀ s, s ≠ 1 → I' 324 s = I 324 s
theorem FS.rf {I : MI} : FS I I := ⟨fun _ _ _ => rfl, fun _ _ => rfl⟩
theorem FS.tr {I J K : MI} (h : FS I J) (h2 : FS J K) : FS I K := ⟨fun k a b => (h2.1 k a b).trans (h.1 k a b), fun s hs => (h2.2 s hs).trans (h.2 s hs)⟩
def FM (I I' : MI) : Prop := (∀ k, k ≠ 336 → k ≠ 348 → I' k = I k) ∧ ∀ s, s ≠ 23 → I' 336 s = I 336 s
theorem FM.rf {I : MI} : FM I I := ⟨fun _ _ _ => rfl, fun _ _ => rfl⟩
theorem FM.tr {I J K : MI} (h : FM I J) (h2 : FM J K) : FM I K := ⟨fun k a b => (h2.1 k a b).trans (h.1 k a b), fun s hs => (h2.2 s hs).trans (h.2 s hs)⟩
theorem get_app {α : Type} {l : List α} {x y : α} {q : Nat} (h : (l ++ [x])[q]? = some y) : (q < l.length ∧ l[q]? = some y) ∨ (q = l.length ∧ y = x) := by
  by_cases hq : q < l.length
  · rw [List.getElem?_append_left hq] at h
    exact Or.inl ⟨hq, h⟩
  · have hq2 := lt_of_get h
    rw [List.length_append, List.length_singleton] at hq2
    have : q = l.length := by omega
    subst this
    rw [List.getElem?_append_right (Nat.le_refl _), Nat.sub_self] at h
    cases h
    exact Or.inr ⟨rfl, rfl⟩
section SPC
theorem c_put1 {I : MI} {l : List Nat} {x : Nat} {Q : MI → Prop} (h : CS I l) (hl : l.length < 256) (hx : x < 128) (hQ : ∀ I', CS I' (l ++ [x]) → FS I I' → Q I') : wp_X6_put I (nI x) Q := by
  have e := sbP x hx
  unfold sb at e
  unfold wp_X6_put
  rw [h.1, e, show vp_nar .byte (nI x) = nI x by rw [← e, pk_vb], ix_nI (by omega), show (256 : Int32) = nI 256 from rfl]
  refine ⟨fun z => absurd z (nI_ge (by omega) (by omega)), fun _ => ⟨vp_in_nI hl (by omega), fun I3 e3 I4 e4 => ?_⟩⟩
  have g3 : I3 324 1 = nI l.length := by rw [e3, u2_ne (by omega)]; exact h.1
  rw [g3, nI_1] at e4
  refine hQ I4 ⟨by rw [e4, u2_s, List.length_append, List.length_singleton], fun q y hy => ?_⟩ ⟨fun k a b => by rw [e4, u2_ne a, e3, u2_ne b], fun s hs => by rw [e4, u2_n2 hs, e3, u2_ne (by omega)]⟩
  rcases get_app hy with ⟨a, b⟩ | ⟨a, b⟩
  · rw [e4, u2_ne (by omega), e3, u2_n2 (by omega)]; exact h.2 q y b
  · rw [a, b, e4, u2_ne (by omega), e3, u2_s]
theorem c_word {I : MI} {l : List Nat} {w : Nat} {Q : MI → Prop} (h : CS I l) (hw : w < 7) (hl : l.length + (wl w).length ≤ 256) (hQ : ∀ I', CS I' (l ++ wl w) → FS I I' → Q I') : wp_X6_putWord I (nI w) Q := by
  obtain ⟨a1, a2, a3⟩ := wordT w hw
  have hx : isTxt (1010 + w) := ⟨by omega, by omega⟩
  unfold wp_X6_putWord
  refine c_spelled hw ⟨(wl w).length + 1, ?_⟩
  have key : ∀ (m k : Nat) (J : MI), k + m = (wl w).length → CS J (l ++ (wl w).take k) → FS I J → lp_X6_putWord_7 (1010 + w) Q (m + 1) (nI k) J := by
    intro m
    induction m with
    | zero =>
      intro k J hk hc hf
      unfold lp_X6_putWord_7
      rw [a1]
      rw [List.take_of_length_le (by omega)] at hc
      exact ⟨hx, fun _ => hQ J hc hf, fun z => absurd (nI_le (by omega) (by omega)) z⟩
    | succ m ih =>
      intro k J hk hc hf
      obtain ⟨t1, t2⟩ := a3 k (by omega) (by omega)
      have hkl : k < (wl w).length := by omega
      unfold lp_X6_putWord_7
      rw [a1, ix_nI (by omega), t1, nI_1]
      refine ⟨hx, fun z => absurd z (nI_ge (by omega) (by omega)), fun _ => ⟨hx, vp_in_nI (by omega) (by omega), c_put1 hc (by rw [List.length_append, List.length_take]; omega) t2 (fun I8 c8 f8 => ih (k + 1) I8 (by omega) ?_ (hf.tr f8))⟩⟩
      have eg : (wl w).getD k 0 = (wl w)[k] := by simp [List.getD, hkl]
      rw [eg, List.append_assoc, ← take_s hkl] at c8
      exact c8
  rw [← nI_0]
  exact key _ 0 I (by omega) (by rw [List.take_zero, List.append_nil]; exact h) FS.rf
theorem c_num {I : MI} {l : List Nat} {v : Nat} {Q : MI → Prop} (h : CS I l) (hv : v < 100) (hl : l.length + (nmL v).length ≤ 256) (hQ : ∀ I', CS I' (l ++ nmL v) → FS I I' → Q I') : wp_X6_putNumber I (nI v) Q := by
  have hlen := nmL_len v
  have e10 : nI v - nI v / 10 * 10 = nI (v % 10) := by rw [show (10 : Int32) = nI 10 from rfl, pk_rem (by omega) (by omega) (by omega)]
  have ed : nI v / 10 = nI (v / 10) := by rw [show (10 : Int32) = nI 10 from rfl, pk_div (by omega) (by omega) (by omega)]
  have edr : nI (v / 10) - nI (v / 10) / 10 * 10 = nI (v / 10) := by
    rw [show (10 : Int32) = nI 10 from rfl, pk_rem (by omega) (by omega) (by omega), Nat.mod_eq_of_lt (by omega)]
  unfold wp_X6_putNumber jn_X6_putNumber_26
  rw [show (32 : Int32) = nI 32 from rfl]
  refine c_put1 h (by split at hlen <;> omega) (by omega) (fun I1 c1 f1 => ?_)
  rw [e10, ed, edr, show (48 : Int32) + nI (v % 10) = nI (48 + v % 10) from nI_add 48 _, show (48 : Int32) + nI (v / 10) = nI (48 + v / 10) from nI_add 48 _]
  refine pk_lt v 10 (fun z => ?_) (fun z => ?_)
  · rw [if_pos z] at hlen
    refine c_put1 c1 (by rw [List.length_append, List.length_singleton]; omega) (by omega) (fun I2 c2 f2 => hQ I2 ?_ (f1.tr f2))
    unfold nmL
    rw [if_pos z]
    rw [List.append_assoc, show 48 + v % 10 = 48 + v by omega] at c2
    exact c2
  · rw [if_neg (by omega)] at hlen
    refine c_put1 c1 (by rw [List.length_append, List.length_singleton]; omega) (by omega) (fun I2 c2 f2 => c_put1 c2 (by rw [List.length_append, List.length_append, List.length_singleton, List.length_singleton]; omega) (by omega) (fun I3 c3 f3 => hQ I3 ?_ ((f1.tr f2).tr f3)))
    unfold nmL
    rw [if_neg (by omega)]
    rw [List.append_assoc, List.append_assoc] at c3
    exact c3
theorem c_semi {I : MI} {l : List Nat} {Q : MI → Prop} (h : CS I l) (hl : l.length + 1 ≤ 256) (hQ : ∀ I', CS I' (l ++ [59]) → FS I I' → Q I') : wp_X6_put I 59 Q := c_put1 (x := 59) h (by omega) (by omega) hQ
theorem c_one {I : MI} {l : List Nat} {w v : Nat} {Q : MI → Prop} (h : CS I l) (hw : w < 7) (hv : v < 100) (hl : l.length + (oneL w v).length ≤ 256) (hQ : ∀ I', CS I' (l ++ oneL w v) → FS I I' → Q I') : wp_X6_writeOne I (nI w) (nI v) Q := by
  unfold oneL at hl hQ
  rw [List.length_append, List.length_append, List.length_singleton] at hl
  unfold wp_X6_writeOne
  refine c_word h hw (by omega) (fun I1 c1 f1 => c_num c1 hv (by rw [List.length_append]; omega) (fun I2 c2 f2 => c_semi c2 (by rw [List.length_append, List.length_append]; omega) (fun I3 c3 f3 => hQ I3 ?_ ((f1.tr f2).tr f3))))
  rw [List.append_assoc, List.append_assoc] at c3
  rw [List.append_assoc]
  exact c3
end SPC
section SPR
theorem r_put1 {I : MI} {l : List Nat} {x : Nat} (h : MS I l) {I3 I4 : MI} (e3 : I3 = u2 I 348 l.length (nI x)) (e4 : I4 = u2 I3 336 23 (nI (l.length + 1))) : MS I4 (l ++ [x]) ∧ FM I I4 := by
  refine ⟨⟨by rw [e4, u2_s, List.length_append, List.length_singleton], fun q y hy => ?_⟩, fun k a b => by rw [e4, u2_ne a, e3, u2_ne b], fun s hs => by rw [e4, u2_n2 hs, e3, u2_ne (by omega)]⟩
  rcases get_app hy with ⟨a, b⟩ | ⟨a, b⟩
  · rw [e4, u2_ne (by omega), e3, u2_n2 (by omega)]; exact h.2 q y b
  · rw [a, b, e4, u2_ne (by omega), e3, u2_s]
theorem wlT : ∀ w, w < 7 → 27 ^ ((wl w).length - 1) ≤ wv w ∧ wv w < 27 ^ (wl w).length ∧ (wl w).length ≤ 7 ∧ 1 ≤ (wl w).length := by decide +kernel
theorem wlD : ∀ w, w < 7 → ∀ j, j < 7 → j < (wl w).length → wv w / 27 ^ j % 27 + 96 = (wl w).getD ((wl w).length - 1 - j) 0 := by decide +kernel
theorem pw27 {j : Nat} (hj : j ≤ 8) : 27 ^ j ≤ 27 ^ 8 := Nat.pow_le_pow_right (by decide) hj
theorem r_spells {I : MI} {l : List Nat} {w : Nat} {x : Int64} {Q : MI → Prop} (h : MS I l) (hw : w < 7) (hx : x = lN (wv w)) (hl : l.length + 7 ≤ 400) (hQ : ∀ I', MS I' (l ++ wl w) → FM I I' → Q I') : wp_X10_spells I x Q := by
  obtain ⟨a1, a2, a3, a4⟩ := wlT w hw
  have a5 := (wvT w hw).2.2.2
  have p8 : (27 : Nat) ^ 8 < 2 ^ 62 := by decide
  have loop2 : ∀ (j : Nat) (J : MI), j < (wl w).length → MS J (l ++ (wl w).take ((wl w).length - 1 - j)) → FM I J → lp_X10_spells_24 x Q (j + 2) (lN (27 ^ j)) J := by
    intro j
    have common : ∀ (j : Nat) (J : MI) (kf : MI → Prop), j < (wl w).length → MS J (l ++ (wl w).take ((wl w).length - 1 - j)) → (∀ I8, MS I8 (l ++ (wl w).take ((wl w).length - j)) → FM J I8 → kf I8) → (¬ lN (27 ^ j) = 0 ∧ (vp_in (J 336 23) 500 ∧ (∀ I7, I7 = u2 J 348 (ix (J 336 23)) ((((x / lN (27 ^ j)) - (x / lN (27 ^ j)) / 27 * 27).toInt32) + 96) → (∀ I8, I8 = u2 I7 336 23 ((I7 336 23) + 1) → kf I8)))) := by
      intro j J kf hj hm hk
      have hp := pw27 (j := j) (by omega)
      have hpos : 0 < 27 ^ j := Nat.pow_pos (by decide)
      have hlen : (l ++ (wl w).take ((wl w).length - 1 - j)).length ≤ 399 := by rw [List.length_append, List.length_take]; omega
      rw [hm.1, ix_nI (by omega), hx, pk_lDiv (by omega) hpos (by omega), show (27 : Int64) = lN 27 from rfl, pk_lRem (Nat.lt_of_le_of_lt (Nat.div_le_self _ _) (by omega)) (by omega) (by omega), lN_i, show nI (wv w / 27 ^ j % 27) + (96 : Int32) = nI (wv w / 27 ^ j % 27 + 96) from nI_add _ 96, wlD w hw j (by omega) hj]
      refine ⟨fun z => ?_, vp_in_nI (by omega) (by omega), fun I7 e7 I8 e8 => ?_⟩
      · have := (pk_lEQ (a := 27 ^ j) (b := 0) (by omega) (by omega)).mp z
        omega
      · have g7 : I7 336 23 = nI (l ++ (wl w).take ((wl w).length - 1 - j)).length := by rw [e7, u2_ne (by omega)]; exact hm.1
        rw [g7, nI_1] at e8
        obtain ⟨m8, f8⟩ := r_put1 hm e7 e8
        refine hk I8 ?_ f8
        have hkl : (wl w).length - 1 - j < (wl w).length := by omega
        have eg : (wl w).getD ((wl w).length - 1 - j) 0 = (wl w)[(wl w).length - 1 - j] := by simp [List.getD, hkl]
        rw [eg, List.append_assoc, ← take_s hkl, show (wl w).length - 1 - j + 1 = (wl w).length - j by omega] at m8
        exact m8
    induction j with
    | zero =>
      intro J hj hm hf
      unfold lp_X10_spells_24
      refine ⟨fun z => ?_, fun _ => common 0 J _ hj hm (fun I8 m8 f8 => ?_)⟩
      · have := (lg_cmp_le _ _).mp z
        exact absurd this (by decide)
      · unfold lp_X10_spells_24
        refine ⟨fun _ => hQ I8 ?_ (hf.tr f8), fun z => absurd (by decide) z⟩
        rw [Nat.sub_zero, List.take_length] at m8
        exact m8
    | succ j ih =>
      intro J hj hm hf
      have hp := pw27 (j := j + 1) (by omega)
      have hpos : 0 < 27 ^ (j + 1) := Nat.pow_pos (by decide)
      unfold lp_X10_spells_24
      refine ⟨fun z => ?_, fun _ => common (j + 1) J _ hj hm (fun I8 m8 f8 => ?_)⟩
      · have := (lg_cmp_le _ _).mp z
        have := (pk_lLE (a := 27 ^ (j + 1)) (b := 0) (by omega) (by omega)).mp this
        omega
      · rw [show (27 : Int64) = lN 27 from rfl, pk_lDiv (by omega) (by omega) (by omega), Nat.pow_succ, Nat.mul_div_cancel _ (by decide)]
        refine ih I8 (by omega) ?_ (hf.tr f8)
        rw [show (wl w).length - 1 - j = (wl w).length - (j + 1) by omega]
        exact m8
  have loop1 : ∀ (m j : Nat), j + m = (wl w).length - 1 → lp_X10_spells_2 x (fun x3 => (∃ N9, lp_X10_spells_24 x Q N9 x3 I)) (m + 1) (lN (27 ^ j)) := by
    intro m
    induction m with
    | zero =>
      intro j hj
      have hp := pw27 (j := j + 1) (by omega)
      unfold lp_X10_spells_2
      rw [show (27 : Int64) = lN 27 from rfl, lN_mul, hx, lg_cmp_gt, show 27 * 27 ^ j = 27 ^ (j + 1) by rw [Nat.pow_succ, Nat.mul_comm], pk_lLT (by omega) (by omega)]
      refine ⟨fun _ => ⟨j + 2, ?_⟩, fun z => ?_⟩
      · rw [← hx]
        refine loop2 j I (by omega) ?_ FM.rf
        rw [show (wl w).length - 1 - j = 0 by omega, List.take_zero, List.append_nil]
        exact h
      · rw [show j + 1 = (wl w).length by omega] at z
        exact absurd a2 z
    | succ m ih =>
      intro j hj
      have hp := pw27 (j := j + 1) (by omega)
      have hle : 27 ^ (j + 1) ≤ 27 ^ ((wl w).length - 1) := Nat.pow_le_pow_right (by decide) (by omega)
      unfold lp_X10_spells_2
      rw [show (27 : Int64) = lN 27 from rfl, lN_mul, lN_mul, hx, lg_cmp_gt, show 27 * 27 ^ j = 27 ^ (j + 1) by rw [Nat.pow_succ, Nat.mul_comm], show 27 ^ j * 27 = 27 ^ (j + 1) by rw [Nat.pow_succ], pk_lLT (by omega) (by omega)]
      refine ⟨fun z => by omega, fun _ => ?_⟩
      have := ih (j + 1) (by omega)
      rw [hx] at this
      exact this
  unfold wp_X10_spells
  exact ⟨_, loop1 ((wl w).length - 1) 0 (by omega)⟩
theorem r_numb {I : MI} {l : List Nat} {v : Nat} {Q : MI → Prop} (h : MS I l) (hv : v < 100) (hl : l.length + 3 ≤ 400) (hQ : ∀ I', MS I' (l ++ nmL v) → FM I I' → Q I') : wp_X10_spellsNumber I (nI v) Q := by
  have e10 : nI v - nI v / 10 * 10 = nI (v % 10) := by rw [show (10 : Int32) = nI 10 from rfl, pk_rem (by omega) (by omega) (by omega)]
  have ed : nI v / 10 = nI (v / 10) := by rw [show (10 : Int32) = nI 10 from rfl, pk_div (by omega) (by omega) (by omega)]
  have put : ∀ (J : MI) (l' : List Nat) (x : Nat) (kf : MI → Prop), MS J l' → l'.length < 400 → (∀ I', MS I' (l' ++ [x]) → FM J I' → kf I') → (vp_in (J 336 23) 500 ∧ (∀ I2, I2 = u2 J 348 (ix (J 336 23)) (nI x) → (∀ I3, I3 = u2 I2 336 23 ((I2 336 23) + 1) → kf I3))) := by
    intro J l' x kf hm hl' hk
    rw [hm.1, ix_nI (by omega)]
    refine ⟨vp_in_nI (by omega) (by omega), fun I2 e2 I3 e3 => ?_⟩
    have g2 : I2 336 23 = nI l'.length := by rw [e2, u2_ne (by omega)]; exact hm.1
    rw [g2, nI_1] at e3
    obtain ⟨m3, f3⟩ := r_put1 hm e2 e3
    exact hk I3 m3 f3
  unfold wp_X10_spellsNumber jn_X10_spellsNumber_53
  rw [e10, ed, show (48 : Int32) + nI (v % 10) = nI (48 + v % 10) from nI_add 48 _, show (48 : Int32) + nI (v / 10) = nI (48 + v / 10) from nI_add 48 _]
  refine put I l 32 _ h (by omega) (fun I1 m1 f1 => ?_)
  refine pk_le v 9 (fun z => ?_) (fun z => ?_)
  · refine put I1 _ (48 + v % 10) _ m1 (by rw [List.length_append, List.length_singleton]; omega) (fun I2 m2 f2 => hQ I2 ?_ (f1.tr f2))
    unfold nmL
    rw [if_pos (by omega)]
    rw [List.append_assoc, show 48 + v % 10 = 48 + v by omega] at m2
    exact m2
  · refine put I1 _ (48 + v / 10) _ m1 (by rw [List.length_append, List.length_singleton]; omega) (fun I2 m2 f2 => put I2 _ (48 + v % 10) _ m2 (by rw [List.length_append, List.length_append, List.length_singleton, List.length_singleton]; omega) (fun I3 m3 f3 => hQ I3 ?_ ((f1.tr f2).tr f3)))
    unfold nmL
    rw [if_neg (by omega)]
    rw [List.append_assoc, List.append_assoc] at m3
    exact m3
theorem r_last {I : MI} {l : List Nat} {v : Nat} {Q : MI → Prop} (h : MS I l) (hv : v < 100) (hl : l.length + 4 ≤ 400) (hQ : ∀ I', MS I' (l ++ nmL v ++ [59]) → FM I I' → Q I') : wp_X10_spellsLast I (nI v) Q := by
  have hlen := nmL_len v
  unfold wp_X10_spellsLast
  refine r_numb h hv (by omega) (fun I1 m1 f1 => ?_)
  have h4 : (l ++ nmL v).length ≤ 399 := by rw [List.length_append]; split at hlen <;> omega
  rw [m1.1, ix_nI (by omega)]
  refine ⟨vp_in_nI (by omega) (by omega), fun I3 e3 I4 e4 => ?_⟩
  have g3 : I3 336 23 = nI (l ++ nmL v).length := by rw [e3, u2_ne (by omega)]; exact m1.1
  rw [g3, nI_1] at e4
  obtain ⟨m4, f4⟩ := r_put1 (x := 59) m1 e3 e4
  exact hQ I4 m4 (f1.tr f4)
theorem r_one1 {I : MI} {l : List Nat} {w v : Nat} {x : Int64} {Q : MI → Prop} (h : MS I l) (hw : w < 7) (hx : x = lN (wv w)) (hv : v < 100) (hl : l.length + 11 ≤ 400) (hQ : ∀ I', MS I' (l ++ oneL w v) → FM I I' → Q I') : wp_X10_spellsOne I x (nI v) Q := by
  have := (wlT w hw).2.2.1
  unfold wp_X10_spellsOne
  refine r_spells h hw hx (by omega) (fun I1 m1 f1 => r_last m1 hv (by rw [List.length_append]; omega) (fun I2 m2 f2 => hQ I2 ?_ (f1.tr f2)))
  unfold oneL
  rw [List.append_assoc, List.append_assoc] at m2
  rw [List.append_assoc]
  exact m2
end SPR
