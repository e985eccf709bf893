/-! by odds: the purse for a share -/
section PURSE
variable {k : Nat} {I I' I1 I2 I3 : MI} {L L' : ML} {A B C : St} {U : List St} {t : Nat → Nat} {n : Nat} {Y : List (Nat × Nat × Nat × Nat)} {a b c d e : Int32}
theorem lkc0 (hs : SetOk A) {q : Nat} (hq : q < 16) (hn : ¬ vc A q) : lkc A q 0 = 0 := by
  have h7 := (hs.2.2.2.2.2.1 q hq hn).1
  have := (lkV_d (sN A 7 q) (uo_b hs hq).1 (sN A 8 q) (uo_b hs hq).2 0 (by omega)).2.2
  exact this (by omega)
theorem VV0 (hs : SetOk A) {j : Nat} (hj : j < 9) : (VV A (j + 1) 0).1 = lkc A (cK (8 - j)) 0 + (VV A j 0).1 := by
  have h16 : cK (8 - j) < 16 := by unfold cK; omega
  by_cases hv : vc A (cK (8 - j))
  · obtain ⟨s1, s2, s3, -⟩ := VV_spec hs (m := 0) hj
    have hp : 1 ≤ sN A 2 ((8 - j) % 3) := (hs.2.2.1 _ ((cK_vc (by omega)).mp hv).2).1
    have hz : (VV A (j + 1) 0).2.2 = 0 := by
      rcases Nat.eq_zero_or_pos (VV A (j + 1) 0).2.2 with g | g
      · exact g
      · have : 1 * 1 ≤ (VV A (j + 1) 0).2.2 * sN A 2 ((8 - j) % 3) := Nat.mul_le_mul g hp
        omega
    rw [hz] at s1
    have := congrArg (fun z => z.1) s1
    unfold cand at this
    simp only [Nat.zero_mul, Nat.sub_zero] at this
    exact this
  · rw [VV_null hs hj hv, lkc0 hs h16 hv, Nat.zero_add]
theorem VV_all (hs : SetOk A) : (VV A 9 0).1 = lsV A (fun _ => 0) := by
  have e : ∀ j, j < 9 → (VV A (j + 1) 0).1 = lkc A (cK (8 - j)) 0 + (VV A j 0).1 := fun j hj => VV0 hs hj
  have e0 := e 0 (by omega)
  have e1 := e 1 (by omega)
  have e2 := e 2 (by omega)
  have e3 := e 3 (by omega)
  have e4 := e 4 (by omega)
  have e5 := e 5 (by omega)
  have e6 := e 6 (by omega)
  have e7 := e 7 (by omega)
  have e8 := e 8 (by omega)
  have ez : (VV A 0 0).1 = 0 := rfl
  simp only [show cK (8 - 0) = 10 from rfl, show cK (8 - 1) = 9 from rfl, show cK (8 - 2) = 8 from rfl, show cK (8 - 3) = 6 from rfl, show cK (8 - 4) = 5 from rfl, show cK (8 - 5) = 4 from rfl, show cK (8 - 6) = 2 from rfl, show cK (8 - 7) = 1 from rfl, show cK (8 - 8) = 0 from rfl, Nat.reduceAdd] at e0 e1 e2 e3 e4 e5 e6 e7 e8
  have hz : ∀ q, q < 16 → (q / 4 < sN A 1 1 ∧ q % 4 < sN A 1 0) ∨ lkc A q 0 = 0 := fun q hq => by
    by_cases hv : vc A q
    · exact Or.inl hv
    · exact Or.inr (lkc0 hs hq hv)
  have z0 := hz 0 (by omega)
  have z1 := hz 1 (by omega)
  have z2 := hz 2 (by omega)
  have z4 := hz 4 (by omega)
  have z5 := hz 5 (by omega)
  have z6 := hz 6 (by omega)
  have z8 := hz 8 (by omega)
  have z9 := hz 9 (by omega)
  have z10 := hz 10 (by omega)
  have hP := hs.1.1
  have hB := hs.1.2.1
  unfold lsV
  generalize (VV A 9 0).1 = x9 at *
  generalize (VV A 8 0).1 = x8 at *
  generalize (VV A 7 0).1 = x7 at *
  generalize (VV A 6 0).1 = x6 at *
  generalize (VV A 5 0).1 = x5 at *
  generalize (VV A 4 0).1 = x4 at *
  generalize (VV A 3 0).1 = x3 at *
  generalize (VV A 2 0).1 = x2 at *
  generalize (VV A 1 0).1 = x1 at *
  generalize (VV A 0 0).1 = x0 at *
  generalize sN A 1 0 = P at *
  generalize sN A 1 1 = Bn at *
  have p4 : P = 0 ∨ P = 1 ∨ P = 2 ∨ P = 3 := by omega
  have b4 : Bn = 0 ∨ Bn = 1 ∨ Bn = 2 ∨ Bn = 3 := by omega
  rcases p4 with rfl | rfl | rfl | rfl <;> rcases b4 with rfl | rfl | rfl | rfl <;> simp only [tot, Nat.reduceMul, Nat.reduceAdd, Nat.mul_zero, Nat.zero_add, Nat.mul_one] <;> omega
/-- the first purse of those left that isn't too small -/
def pfV (f : Nat → Bool) : Nat → Nat → Int32
  | 0, _ => -2
  | r + 1, i => if f i then pfV f r (i + 1) else nI i
theorem pfV_y {f : Nat → Bool} {r i : Nat} (h : f i = true) : pfV f (r + 1) i = pfV f r (i + 1) := by
  show (if f i then pfV f r (i + 1) else nI i) = _
  rw [if_pos h]
theorem pfV_n {f : Nat → Bool} {r i : Nat} (h : ¬ f i = true) : pfV f (r + 1) i = nI i := by
  show (if f i then pfV f r (i + 1) else nI i) = _
  rw [if_neg h]
def pfC (A : St) (h i : Nat) : Bool := decide (0 < lg_cmp (lN ((VV A 9 i).1 * 100)) (lN ((VV A 9 0).1 * h)))
theorem c_pf {h : Nat} {v : Int64} {Q : Int32 → MI → ML → Prop} (hD : WD I L A) (hv : v = lN ((VV A 9 0).1 * h)) (hQ : Q (pfV (pfC A h) 100 0) I L) : ∃ N, lp_X9_purseFor_42 I L v Q N 0 := by
  have hD0 : ∀ m, m < 100 → L 333 m = lN (VV A 9 m).1 := fun m hm => by
    have := (hD 0 (by omega) m hm).1
    rw [Nat.mul_zero, Nat.zero_add] at this
    exact this
  have key : ∀ (r i : Nat), i + r = 100 → Q (pfV (pfC A h) r i) I L → lp_X9_purseFor_42 I L v Q (r + 1) (nI i) := by
    intro r
    induction r with
    | zero =>
      intro i hi hq
      have e : i = 100 := by omega
      subst e
      unfold lp_X9_purseFor_42
      exact i1 (by decide) hq
    | succ r ih =>
      intro i hi hq
      unfold lp_X9_purseFor_42
      refine i0 (nI_nlt (a := 99) (b := i) (by omega) (by omega)) ⟨vp_in_nI (by omega) (by omega), ?_⟩
      rw [ix_nI (by omega), hD0 i (by omega), show lN (VV A 9 i).1 * (100 : Int64) = lN ((VV A 9 i).1 * 100) from lN_mul _ 100, hv]
      refine ⟨fun z => ?_, fun z => ?_⟩
      · rw [pfV_y (decide_eq_true z)] at hq
        rw [nI_1, ← hv]
        exact ih (i + 1) (by omega) hq
      · rw [pfV_n (fun g => z (of_decide_eq_true g))] at hq
        exact hq
  exact ⟨101, by rw [← nI_0]; exact key 100 0 (by omega) hQ⟩
theorem r_pf {h : Nat} {v : Int64} {Q : Int32 → MI → ML → Prop} (hD : MD I L A 0) (hv : v = lN (VV A 9 0).1) (hh : h ≤ 100) (hQ : Q (pfV (pfC A h) 100 0) I L) : ∃ N, lp_X10_purseFor_49 I L (nI h) v Q N 0 := by
  have hD0 : ∀ m, m < 100 → L 345 m = lN (VV A 9 m).1 := fun m hm => by
    have := (hD 0 (by omega) (Nat.zero_le _) m hm).1
    rw [Nat.mul_zero, Nat.zero_add, numC0] at this
    exact this
  have eh : (nI h).toInt64 * v = lN ((VV A 9 0).1 * h) := by
    rw [nI_l (by omega), hv, lN_mul, Nat.mul_comm]
  have key : ∀ (r i : Nat), i + r = 100 → Q (pfV (pfC A h) r i) I L → lp_X10_purseFor_49 I L (nI h) v Q (r + 1) (nI i) := by
    intro r
    induction r with
    | zero =>
      intro i hi hq
      have e : i = 100 := by omega
      subst e
      unfold lp_X10_purseFor_49
      exact i1 (by decide) hq
    | succ r ih =>
      intro i hi hq
      unfold lp_X10_purseFor_49
      refine i0 (nI_ge (a := i) (b := 100) (by omega) (by omega)) ⟨vp_in_nI (by omega) (by omega), ?_⟩
      rw [ix_nI (by omega), hD0 i (by omega), show (100 : Int64) * lN (VV A 9 i).1 = lN ((VV A 9 i).1 * 100) by rw [show (100 : Int64) = lN 100 from rfl, lN_mul, Nat.mul_comm], eh]
      refine ⟨fun z => ?_, fun z => ?_⟩
      · rw [pfV_y (decide_eq_true z)] at hq
        rw [nI_1]
        exact ih (i + 1) (by omega) hq
      · rw [pfV_n (fun g => z (of_decide_eq_true g))] at hq
        exact hq
  exact ⟨101, by rw [← nI_0]; exact key 100 0 (by omega) hQ⟩
theorem r_zeroS {Q : MI → Prop} (hQ : ∀ I', (∀ q, q < 9 → I' 344 q = 0) → (∀ j, j ≠ 344 → I' j = I j) → Q I') : ∃ N, lp_X10_purseFor_18 Q N 0 I := by
  have key : ∀ (r i : Nat) (J : MI), i + r = 9 → (∀ q, q < i → J 344 q = 0) → (∀ j, j ≠ 344 → J j = I j) → lp_X10_purseFor_18 Q (r + 1) (nI i) J := by
    intro r
    induction r with
    | zero =>
      intro i J hi h1 h2
      have e : i = 9 := by omega
      subst e
      unfold lp_X10_purseFor_18
      exact i1 (by decide) (hQ J h1 h2)
    | succ r ih =>
      intro i J hi h1 h2
      unfold lp_X10_purseFor_18
      refine i0 (nI_ge (a := i) (b := 9) (by omega) (by omega)) ?_
      rw [ix_nI (by omega), nI_1]
      refine ⟨vp_in_nI (by omega) (by omega), fun I4 e4 => ih (i + 1) I4 (by omega) (fun q hq => ?_) (fun j hj => by rw [e4, u2_ne hj]; exact h2 j hj)⟩
      rw [e4, u2_at]
      by_cases hqi : q = i
      · rw [if_pos ⟨rfl, hqi⟩]
      · rw [if_neg (fun z => hqi z.2)]
        exact h1 q (by omega)
  exact ⟨10, by rw [← nI_0]; exact key 9 0 I (by omega) (fun q hq => absurd hq (by omega)) (fun _ _ => rfl)⟩
theorem m_purseFor {Q : Int32 → MI → ML → Prop} (h : Iv k I L) (hQ : ∀ x I' L', (∀ Q2 : Int32 → MI → ML → Prop, (∀ I'' L'', Iv (k + 1) I'' L'' → Q2 x I'' L'') → wp_X10_purseFor I' L' a Q2) → Q x I' L') : wp_X9_purseFor I L a Q := by
  have h0 := h.up
  obtain ⟨A, U, t, n, hc, hr, hp, hu⟩ := h
  have hs := hp.1.1
  unfold wp_X9_purseFor
  by_cases hw : ∃ w, 0 ≤ w ∧ w ≤ 100 ∧ a = nI w
  · obtain ⟨w, -, hw, rfl⟩ := hw
    refine i0 (nI_pos (by omega)) (i1 (nI_le (a := w) (b := 100) hw (by omega)) (vc_best hc hs (fun I1 L1 v1 hD f1 => ⟨vp_in_nI (n := 0) (by omega) (by omega), ?_⟩)))
    have e0 : L1 333 (ix 0) = lN (VV A 9 0).1 := by
      have := (hD 0 (by omega) 0 (by omega)).1
      rw [Nat.mul_zero, Nat.zero_add] at this
      exact this
    rw [e0, nI_l (by omega), lN_mul]
    refine c_pf hD rfl (hQ _ _ _ (fun Q2 h2 => ?_))
    have hr' := hr.fr f1
    obtain ⟨Y', hY'⟩ := hr'.1
    unfold wp_X10_purseFor
    refine inY (lo := 0) (hi := 100) (by omega) hw (by omega) (j0 o1 (r_layBest hY' hs (fun I2 L2 m2 f2 => r_zeroS (fun I3 c3 f3 => ?_))))
    have hv3 : VR I3 A U t n := (hr'.rd' f2).frO (by rw [f3 336 (by omega)]) (by rw [f3 336 (by omega)]) (fun j hj => f3 j (by omega))
    obtain ⟨Y3, hY3⟩ := hv3.1
    have m3 : MD I3 L2 A 0 := by
      unfold MD at m2 ⊢
      rw [f3 346 (by omega), f3 347 (by omega)]
      exact m2
    refine r_lacksBy (f := fun _ => 0) hY3 hs (fun b' p' hb' hp' => ?_) (r_pf m3 (by rw [VV_all hs]) hw (h2 _ _ ⟨A, U, t, n, v1.fr (f2.lc.tr (fun j hj => f3 j (by omega))) (fun j hj => f2.2 j (by omega)), hv3, hp.up, PGs_up hu⟩))
    obtain ⟨hvc, hb3, hp3⟩ := vc_of hs hb' hp'
    exact ⟨c3 _ (by omega), by omega⟩
  · have hn : ∀ j, 0 ≤ j → j ≤ 100 → ¬ a = nI j := fun j x y z => hw ⟨j, x, y, z⟩
    have no : Q (-1) I L := hQ _ _ _ (fun Q2 h2 => by
      unfold wp_X10_purseFor
      exact inN (lo := 0) (hi := 100) (by omega) (by omega) hn (j1 rfl (h2 _ _ h0)))
    exact ⟨fun _ => no, fun z => ⟨fun z2 => absurd (rngG (lo := 0) (hi := 100) (by omega) (by omega) z (fun g => absurd z2 (Int32.not_le.mpr g))) hw, fun _ => no⟩⟩
end PURSE
