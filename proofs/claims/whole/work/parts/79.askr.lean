/-! what is asked: the reference's answers -/
theorem tot_add (f g : Nat → Nat) : ∀ (n : Nat), tot (fun k => f k + g k) n = tot f n + tot g n
  | 0 => rfl
  | n + 1 => by
    unfold tot
    rw [tot_add f g n]
    omega
theorem tot_one {q : Nat} : ∀ (n : Nat), q < n → tot (fun k => if q = k then 1 else 0) n = 1
  | 0, h => absurd h (by omega)
  | n + 1, h => by
    unfold tot
    by_cases hq : q = n
    · subst hq
      rw [if_pos rfl, tot_ext (g := fun _ => 0) q (fun i hi => if_neg (by omega)), tot_const, Nat.mul_zero]
    · rw [if_neg hq, tot_one n (by omega)]
theorem tot_zero : ∀ (n : Nat) {f : Nat → Nat}, (∀ i, i < n → f i = 0) → tot f n = 0
  | 0, f, _ => rfl
  | n + 1, f, h => by
    unfold tot
    rw [tot_zero n (fun i hi => h i (by omega)), h n (by omega)]
/-- places of a base, part by part -/
theorem split_base {α : Type} (f : α → Nat) (b n : Nat) (hn : n ≤ 4) : ∀ (xs : List α), (∀ x ∈ xs, f x % 4 < n) → tot (fun p => xs.countP (fun x => f x == 4 * b + p)) n = xs.countP (fun x => f x / 4 == b)
  | [], _ => tot_zero n (fun _ _ => rfl)
  | x :: xs, h => by
    have ih := split_base f b n hn xs (fun y hy => h y (List.mem_cons_of_mem _ hy))
    have hx := h x List.mem_cons_self
    rw [List.countP_cons, ← ih]
    have e : ∀ p, (x :: xs).countP (fun x => f x == 4 * b + p) = xs.countP (fun x => f x == 4 * b + p) + (if (f x == 4 * b + p) = true then 1 else 0) := fun p => List.countP_cons
    rw [tot_ext n (fun p _ => e p), tot_add]
    congr 1
    by_cases hb : f x / 4 = b
    · rw [if_pos (by simpa using hb)]
      rw [tot_ext (g := fun k => if f x % 4 = k then 1 else 0) n (fun p hp => ?_), tot_one n hx]
      by_cases hq : f x % 4 = p
      · rw [if_pos hq, if_pos (by simp; omega)]
      · rw [if_neg hq, if_neg (by simp; omega)]
    · rw [if_neg (by simpa using hb)]
      exact tot_zero n (fun p hp => if_neg (by simp; omega))
/-- places of a part, base by base -/
theorem split_part {α : Type} (f : α → Nat) (p n : Nat) (hp : p < 4) : ∀ (xs : List α), (∀ x ∈ xs, f x / 4 < n) → tot (fun b => xs.countP (fun x => f x == 4 * b + p)) n = xs.countP (fun x => f x % 4 == p)
  | [], _ => tot_zero n (fun _ _ => rfl)
  | x :: xs, h => by
    have ih := split_part f p n hp xs (fun y hy => h y (List.mem_cons_of_mem _ hy))
    have hx := h x List.mem_cons_self
    rw [List.countP_cons, ← ih]
    have e : ∀ b, (x :: xs).countP (fun x => f x == 4 * b + p) = xs.countP (fun x => f x == 4 * b + p) + (if (f x == 4 * b + p) = true then 1 else 0) := fun b => List.countP_cons
    rw [tot_ext n (fun b _ => e b), tot_add]
    congr 1
    by_cases hb : f x % 4 = p
    · rw [if_pos (by simpa using hb)]
      rw [tot_ext (g := fun k => if f x / 4 = k then 1 else 0) n (fun b hp => ?_), tot_one n hx]
      by_cases hq : f x / 4 = b
      · rw [if_pos hq, if_pos (by simp; omega)]
      · rw [if_neg hq, if_neg (by simp; omega)]
    · rw [if_neg (by simpa using hb)]
      exact tot_zero n (fun b hp => if_neg (by simp; omega))
theorem z2012 (k : Nat) : (2012 : Int32) + nI k = nI (2012 + k) := nI_add 2012 k
section RASK
variable {I : MI} {A : St} {Y : List (Nat × Nat × Nat × Nat)}
theorem r_callsOf {b p : Nat} {Q : Int32 → Prop} (h : RR I A Y) (hw : ∀ w ∈ sC A, w.1 < 16) (hp : p < 4) (hb : b < 4) (hQ : Q (nI ((sC A).countP (fun w => w.1 == 4 * b + p)))) : wp_X10_callsOf I (nI b) (nI p) Q := by
  have e15 : I 337 15 = nI (sC A).length := h.2.1.2.1
  have hl := h.2.2.2.2.2.2.2.2.1
  have hlst := h.2.2.2.1
  have i15 : ix 15 = 15 := by decide
  have key : ∀ (n i m : Nat), i + n = (sC A).length → Q (nI (m + ((sC A).drop i).countP (fun w => w.1 == 4 * b + p))) → lp_X10_callsOf_5 I (nI b) (nI p) Q (n + 1) (nI m) (nI i) := by
    intro n
    induction n with
    | zero =>
      intro i m hi hq
      unfold lp_X10_callsOf_5
      rw [i15, e15]
      refine ⟨v15, fun _ => ?_, fun z => absurd (nI_le (by omega) (by omega)) z⟩
      rw [List.drop_of_length_le (by omega)] at hq
      exact hq
    | succ n ih =>
      intro i m hi hq
      have hil : i < (sC A).length := by omega
      have hmem := List.getElem_mem hil
      have hw16 := hw _ hmem
      have hg : (sC A)[i]? = some (sC A)[i] := List.getElem?_eq_getElem hil
      have x0 : I 337 (412 + 3 * i) = nI ((sC A)[i].1 / 4) := hlst i _ hg 0 (by omega)
      have x1 : I 337 (412 + 3 * i + 1) = nI ((sC A)[i].1 % 4) := hlst i _ hg 1 (by omega)
      rw [List.drop_eq_getElem_cons hil, List.countP_cons] at hq
      unfold lp_X10_callsOf_5
      rw [i15, e15, z412, nI_1, ix_nI (by omega), ix_nI (by omega), x0, x1]
      have no : ¬ (sC A)[i].1 = 4 * b + p → jn_X10_callsOf_58 (nI i) (nI m) (fun x7 x8 => (lp_X10_callsOf_5 I (nI b) (nI p) Q (n + 1) x7 x8)) := by
        intro z
        unfold jn_X10_callsOf_58 jn_X10_callsOf_59
        have : ((sC A)[i].1 == 4 * b + p) = false := by simpa using z
        rw [this] at hq
        rw [show (0 : Int32) = nI 0 from rfl, nI_add, nI_1]
        exact ih (i + 1) m (by omega) (by simpa using hq)
      refine ⟨v15, fun z => absurd z (nI_ge (by omega) (by omega)), fun _ => ⟨vp_in_nI (by omega) (by omega), fun z => no (fun q => z (by rw [q]; congr 1; omega)), fun z => ⟨vp_in_nI (by omega) (by omega), fun w => no (fun q => w (by rw [q]; congr 1; omega)), fun w => ?_⟩⟩⟩
      have z := (nI_eq (by omega) (by omega)).mp z
      have w := (nI_eq (by omega) (by omega)).mp w
      have : ((sC A)[i].1 == 4 * b + p) = true := by simp; omega
      rw [this] at hq
      unfold jn_X10_callsOf_59
      rw [nI_1, nI_1]
      refine ih (i + 1) (m + 1) (by omega) ?_
      rw [show m + 1 + ((sC A).drop (i + 1)).countP (fun w => w.1 == 4 * b + p) = m + (((sC A).drop (i + 1)).countP (fun w => w.1 == 4 * b + p) + 1) by omega]
      simpa using hq
  unfold wp_X10_callsOf
  refine ⟨(sC A).length + 1, ?_⟩
  rw [← nI_0]
  exact key (sC A).length 0 0 (by omega) (by simpa using hQ)
theorem r_wantsOf' {b p : Nat} {Q : Int32 → Prop} (h : RR I A Y) (hw : ∀ w ∈ sW A, w.1 < 16) (hp : p < 4) (hb : b < 4) (hQ : Q (nI ((sW A).countP (fun w => w.1 == 4 * b + p)))) : wp_X10_wantsOf I (nI b) (nI p) Q := by
  have := r_wantsOf (c := 4 * b + p) (Q := Q) h hw (by omega) hQ
  rwa [show (4 * b + p) / 4 = b by omega, show (4 * b + p) % 4 = p by omega] at this
theorem r_waysOf {k : Nat} {x2 x3 : Int32} {Q : Int32 → Prop} (P : Nat × Nat × Nat × Nat → Bool) (h : RR I A Y) (hk : ∀ y ∈ sY A, y.1 ≤ 4) (hk4 : k ≤ 4) (hP : ∀ y ∈ sY A, P y = true ↔ (y.1 = k ∧ (x2 = -1 ∨ nI (y.2.2.1 % 4) = x2) ∧ (x3 = -1 ∨ gY y 3 = x3))) (hQ : Q (nI ((sY A).countP P))) : wp_X10_waysOf I (nI k) x2 x3 Q := by
  have e16 : I 337 16 = nI Y.length := h.2.1.2.2.1
  have hl := h.2.2.2.2.2.2.2.2.2.1
  have hlst := h.2.2.2.2.1
  have hpm := h.2.2.2.2.2.2.1
  rw [← hpm.countP_eq] at hQ
  have i16 : ix 16 = 16 := by decide
  have key : ∀ (n i m : Nat), i + n = Y.length → Q (nI (m + (Y.drop i).countP P)) → lp_X10_waysOf_6 I (nI k) x2 x3 Q (n + 1) (nI m) (nI i) := by
    intro n
    induction n with
    | zero =>
      intro i m hi hq
      unfold lp_X10_waysOf_6
      rw [i16, e16]
      refine ⟨v16, fun _ => ?_, fun z => absurd (nI_le (by omega) (by omega)) z⟩
      rw [List.drop_of_length_le (by omega)] at hq
      exact hq
    | succ n ih =>
      intro i m hi hq
      have hil : i < Y.length := by omega
      have hmem := hpm.mem_iff.mp (List.getElem_mem hil)
      have hy4 := hk _ hmem
      have hp := hP _ hmem
      have hg : Y[i]? = some Y[i] := List.getElem?_eq_getElem hil
      have x0 : I 337 (1012 + 5 * i) = nI Y[i].1 := hlst i _ hg 0 (by omega)
      have xx2 : I 337 (1012 + 5 * i + 2) = nI (Y[i].2.2.1 % 4) := hlst i _ hg 2 (by omega)
      have xx3 : I 337 (1012 + 5 * i + 3) = gY Y[i] 3 := hlst i _ hg 3 (by omega)
      rw [List.drop_eq_getElem_cons hil, List.countP_cons] at hq
      have no : ¬ (Y[i].1 = k ∧ (x2 = -1 ∨ nI (Y[i].2.2.1 % 4) = x2) ∧ (x3 = -1 ∨ gY Y[i] 3 = x3)) → jn_X10_waysOf_81 (nI i) (nI m) (fun x7 x8 => (lp_X10_waysOf_6 I (nI k) x2 x3 Q (n + 1) x7 x8)) := by
        intro z
        have : P Y[i] = false := by
          rcases Bool.eq_false_or_eq_true (P Y[i]) with q | q
          · exact absurd (hp.mp q) z
          · exact q
        rw [this] at hq
        unfold jn_X10_waysOf_81 jn_X10_waysOf_82
        rw [show (0 : Int32) = nI 0 from rfl, nI_add, nI_1]
        exact ih (i + 1) m (by omega) (by simpa using hq)
      have yes : (Y[i].1 = k ∧ (x2 = -1 ∨ nI (Y[i].2.2.1 % 4) = x2) ∧ (x3 = -1 ∨ gY Y[i] 3 = x3)) → jn_X10_waysOf_77 (nI i) (nI m) (fun x7 x8 => (lp_X10_waysOf_6 I (nI k) x2 x3 Q (n + 1) x7 x8)) := by
        intro z
        rw [hp.mpr z] at hq
        unfold jn_X10_waysOf_77 jn_X10_waysOf_82
        rw [nI_1, nI_1]
        refine ih (i + 1) (m + 1) (by omega) ?_
        rw [show m + 1 + (Y.drop (i + 1)).countP P = m + ((Y.drop (i + 1)).countP P + 1) by omega]
        simpa using hq
      have b3 : Y[i].1 = k → (x2 = -1 ∨ nI (Y[i].2.2.1 % 4) = x2) → jn_X10_waysOf_59 I x3 (nI i) (nI (1012 + 5 * i)) (nI m) (fun x7 x8 => (lp_X10_waysOf_6 I (nI k) x2 x3 Q (n + 1) x7 x8)) := by
        intro a b
        unfold jn_X10_waysOf_59
        rw [nI_3, ix_nI (by omega), xx3]
        exact ⟨fun z => yes ⟨a, b, Or.inl z⟩, fun z => ⟨vp_in_nI (by omega) (by omega), fun w => no (fun q => q.2.2.elim z w), fun w => yes ⟨a, b, Or.inr w⟩⟩⟩
      unfold lp_X10_waysOf_6
      rw [i16, e16, z1012, nI_2, ix_nI (n := 1012 + 5 * i) (by omega), ix_nI (n := 1012 + 5 * i + 2) (by omega), x0, xx2]
      refine ⟨v16, fun z => absurd z (nI_ge (by omega) (by omega)), fun _ => ⟨vp_in_nI (by omega) (by omega), (pk_eq Y[i].1 k (fun a => ⟨fun z => b3 a (Or.inl z), fun z => ⟨vp_in_nI (by omega) (by omega), fun w => no (fun q => q.2.1.elim z w), fun w => b3 a (Or.inr w)⟩⟩) (fun a => no (fun q => a q.1))).symm⟩⟩
  unfold wp_X10_waysOf
  refine ⟨Y.length + 1, ?_⟩
  rw [← nI_0]
  exact key Y.length 0 0 (by omega) (by simpa using hQ)
theorem r_callsOfPart {p : Nat} {Q : Int32 → Prop} (h : RR I A Y) (hs : SetOk A) (hv : ∀ w ∈ sC A, vc A w.1) (hp : p < 4) (hQ : Q (nI ((sC A).countP (fun w => w.1 % 4 == p)))) : wp_X10_callsOfPart I (nI p) Q := by
  have e1 : I 337 1 = nI (sN A 1 1) := h.n (j := 1) (i := 1) (by decide)
  have h3 := hs.1.2.1
  rw [← split_part (fun w : Nat × Nat => w.1) p (sN A 1 1) hp (sC A) (fun x hx => (hv x hx).1)] at hQ
  have key : ∀ (n b : Nat), b + n = sN A 1 1 → lp_X10_callsOfPart_4 I (nI p) Q (n + 1) (nI (tot (fun b => (sC A).countP (fun w => w.1 == 4 * b + p)) b)) (nI b) := by
    intro n
    induction n with
    | zero =>
      intro b hb
      have hb : b = sN A 1 1 := by omega
      unfold lp_X10_callsOfPart_4
      rw [show ix 1 = 1 from by decide, e1, hb]
      exact ⟨v1, fun _ => hQ, fun z => absurd (nI_le (Nat.le_refl _) (by omega)) z⟩
    | succ n ih =>
      intro b hb
      unfold lp_X10_callsOfPart_4
      rw [show ix 1 = 1 from by decide, e1]
      refine ⟨v1, fun z => absurd z (nI_ge (by omega) (by omega)), fun _ => r_callsOf h (fun w hw => by have := vc_lt hs (hv w hw); omega) hp (by omega) ?_⟩
      rw [nI_add, nI_1]
      exact ih (b + 1) (by omega)
  unfold wp_X10_callsOfPart
  refine ⟨sN A 1 1 + 1, ?_⟩
  rw [← nI_0]
  exact key (sN A 1 1) 0 (by omega)
theorem r_waiting {p : Nat} {Q : Int32 → Prop} (h : RR I A Y) (hq4 : ∀ q ∈ sQ A, q < 4) (hp : p < 4) (hQ : Q (nI ((sQ A).countP (fun q => q == p)))) : wp_X10_waiting I (nI p) Q := by
  have e17 : I 337 17 = nI (sQ A).length := h.2.1.2.2.2
  have hl := h.2.2.2.2.2.2.2.2.2.2
  have hlst := h.2.2.2.2.2.1
  have i17 : ix 17 = 17 := by decide
  have key : ∀ (n i m : Nat), i + n = (sQ A).length → Q (nI (m + ((sQ A).drop i).countP (fun q => q == p))) → lp_X10_waiting_4 I (nI p) Q (n + 1) (nI m) (nI i) := by
    intro n
    induction n with
    | zero =>
      intro i m hi hq
      unfold lp_X10_waiting_4
      rw [i17, e17]
      refine ⟨v17, fun _ => ?_, fun z => absurd (nI_le (by omega) (by omega)) z⟩
      rw [List.drop_of_length_le (by omega)] at hq
      exact hq
    | succ n ih =>
      intro i m hi hq
      have hil : i < (sQ A).length := by omega
      have hg : (sQ A)[i]? = some (sQ A)[i] := List.getElem?_eq_getElem hil
      have hq4' := hq4 _ (List.getElem_mem hil)
      have x0 : I 337 (2012 + i) = nI (sQ A)[i] := by
        have := hlst i _ hg 0 (by omega)
        rw [Nat.one_mul, Nat.add_zero] at this
        exact this
      rw [List.drop_eq_getElem_cons hil, List.countP_cons] at hq
      unfold lp_X10_waiting_4 jn_X10_waiting_35
      rw [i17, e17, z2012, ix_nI (by omega), x0]
      refine ⟨v17, fun z => absurd z (nI_ge (by omega) (by omega)), fun _ => ⟨vp_in_nI (by omega) (by omega), (pk_eq (sQ A)[i] p (fun z => ?_) (fun z => ?_)).symm⟩⟩
      · have : ((sQ A)[i] == p) = true := by simpa using z
        rw [this] at hq
        rw [nI_1, nI_1]
        refine ih (i + 1) (m + 1) (by omega) ?_
        rw [show m + 1 + ((sQ A).drop (i + 1)).countP (fun q => q == p) = m + (((sQ A).drop (i + 1)).countP (fun q => q == p) + 1) by omega]
        simpa using hq
      · have : ((sQ A)[i] == p) = false := by simpa using z
        rw [this] at hq
        rw [show (0 : Int32) = nI 0 from rfl, nI_add, nI_1]
        exact ih (i + 1) m (by omega) (by simpa using hq)
  unfold wp_X10_waiting
  refine ⟨(sQ A).length + 1, ?_⟩
  rw [← nI_0]
  exact key (sQ A).length 0 0 (by omega) (by simpa using hQ)
theorem r_part {p : Nat} {v : Int32} {Q : Int32 → Prop} (h : RR I A Y) (hs : SetOk A) (hd : DynOk A) (hp : p < sN A 1 0) (hQ : Q (partV A p v)) : wp_X10_part I (nI p) v Q := by
  have h3 := hs.1.1
  have h4 := hs.1.2.1
  have hk : ∀ y ∈ sY A, y.1 ≤ 4 := fun y hy => (hd.2.2.2.2.2.1 y hy).1
  have e20 : I 337 (20 + p) = nI (sN A 2 p) := h.n (j := 2) (i := p) (by unfold rd; simp; omega)
  have e23 : I 337 (23 + p) = nI (sN A 3 p) := h.n (j := 3) (i := p) (by unfold rd; simp; omega)
  have e26 : I 337 (26 + p) = nI (sN A 4 p) := h.n (j := 4) (i := p) (by unfold rd; simp; omega)
  have e59 : I 337 (59 + p) = nI (sN A 5 p) := h.n (j := 5) (i := p) (by unfold rd; simp; omega)
  have e71 : I 337 (71 + p) = nI (sN A 13 p) := h.n (j := 13) (i := p) (by unfold rd; simp; omega)
  have hnm := nI_nm (k := p) (by omega)
  have hp4 : ∀ y ∈ sY A, y.2.2.1 % 4 < 4 := fun y _ => by omega
  have hpe : ∀ q : Nat, q < 4 → (nI q = nI p ↔ q = p) := fun q hq => nI_eq (by omega) (by omega)
  unfold wp_X10_part
  refine r_isPart h hs (fun _ => ⟨fun _ => ?_, fun z => absurd z (by decide)⟩) (fun z => absurd ⟨p, hp, rfl⟩ z)
  rw [show (20 : Int32) + nI p = nI (20 + p) from nI_add 20 p, show (23 : Int32) + nI p = nI (23 + p) from nI_add 23 p, show (26 : Int32) + nI p = nI (26 + p) from nI_add 26 p, show (59 : Int32) + nI p = nI (59 + p) from nI_add 59 p, show (71 : Int32) + nI p = nI (71 + p) from nI_add 71 p, ix_nI (n := 20 + p) (by omega), ix_nI (n := 23 + p) (by omega), ix_nI (n := 26 + p) (by omega), ix_nI (n := 59 + p) (by omega), ix_nI (n := 71 + p) (by omega), e20, e23, e26, e59, e71]
  have vi : ∀ n, n < 2212 → vp_in (nI n) 2212 := fun n hn => vp_in_nI hn (by omega)
  unfold partV at hQ
  refine wi hQ (fun g => ⟨vi _ (by omega), g⟩) (fun hQ => wi hQ (fun g => ⟨vi _ (by omega), g⟩) (fun hQ => wi hQ (fun g => ⟨vi _ (by omega), g⟩) (fun hQ => wi hQ (fun g => ⟨vi _ (by omega), g⟩) (fun hQ => wi hQ (fun g => ⟨vi _ (by omega), g⟩) (fun hQ => wi hQ (fun hQ => ?_) (fun hQ => wi hQ (fun hQ => ?_) (fun hQ => wi hQ (fun hQ => ?_) (fun hQ => wi hQ (fun hQ => ?_) id))))))))
  · exact r_callsOfPart h hs (fun w hw => (hd.2.2.2.2.1 w hw).1) (by omega) hQ
  · exact r_waiting h (fun q hq => by have := hd.2.2.2.2.2.2.1 q hq; omega) (by omega) hQ
  · exact r_waysOf (k := 2) (fun y => y.1 == 2 && y.2.2.1 % 4 == p) h hk (by omega) (fun y hy => by simp [hnm, hpe _ (hp4 y hy)]) hQ
  · exact r_waysOf (k := 1) (fun y => y.1 == 1 && y.2.2.1 % 4 == p) h hk (by omega) (fun y hy => by simp [hnm, hpe _ (hp4 y hy)]) hQ
theorem wsum {k : Nat → Bool} {P : Nat × Nat × Nat × Nat → Bool} : ∀ (ys : List (Nat × Nat × Nat × Nat)), ys.countP (fun y => y.1 == 3 && P y) + ys.countP (fun y => y.1 == 4 && P y) = ys.countP (fun y => (y.1 == 3 || y.1 == 4) && P y)
  | [] => rfl
  | y :: ys => by
    have ih := wsum (k := k) (P := P) ys
    rw [List.countP_cons, List.countP_cons, List.countP_cons]
    by_cases h3 : y.1 = 3
    · simp [h3]
      omega
    · by_cases h4 : y.1 = 4
      · simp [h4]
        omega
      · simp [h3, h4]
        omega
theorem gY3 {y : Nat × Nat × Nat × Nat} {k b : Nat} (hk : k ≠ 2) (h : y.1 = k) (hy : y.2.2.1 < 2 ^ 31) (hb : b < 4) : gY y 3 = nI b ↔ y.2.2.1 / 4 = b := by
  unfold gY
  rw [if_neg (by omega), if_neg (by omega), if_neg (by omega), if_pos rfl, if_neg (by omega)]
  exact nI_eq (by omega) (by omega)
theorem r_base {b : Nat} {v : Int32} {Q : Int32 → Prop} (h : RR I A Y) (hs : SetOk A) (hd : DynOk A) (hw : Wf A) (hb : b < sN A 1 1) (hQ : Q (baseV A b v)) : wp_X10_base I (nI b) v Q := by
  have h3 := hs.1.1
  have h4 := hs.1.2.1
  have hk : ∀ y ∈ sY A, y.1 ≤ 4 := fun y hy => (hd.2.2.2.2.2.1 y hy).1
  have hy16 : ∀ y ∈ sY A, y.2.2.1 < 16 := fun y hy => (hw.1 y hy).2.2.1
  have e29 := rd6 h (b := b) (by omega)
  have e0 : I 337 0 = nI (sN A 1 0) := h.n (j := 1) (i := 0) (by decide)
  have hnm := nI_nm (k := b) (by omega)
  have lp : ∀ (g : Nat → Nat), (∀ (p : Nat) (Q' : Int32 → Prop), p < sN A 1 0 → Q' (nI (g p)) → (¬ v = 1 → ((¬ v = 2 → (wp_X10_cellOf (nI b) (nI p) (fun x11 => ((vp_in (62 + x11) 2212 ∧ Q' (I 337 (ix (62 + x11)))))))) ∧ (v = 2 → (wp_X10_callsOf I (nI b) (nI p) Q')))) ∧ (v = 1 → (wp_X10_wantsOf I (nI b) (nI p) Q'))) → Q (nI (tot g (sN A 1 0))) → ∃ N21, lp_X10_base_59 I (nI b) v Q N21 0 0 := by
    intro g hg hQ
    have key : ∀ (n p : Nat), p + n = sN A 1 0 → lp_X10_base_59 I (nI b) v Q (n + 1) (nI (tot g p)) (nI p) := by
      intro n
      induction n with
      | zero =>
        intro p hp
        have hp : p = sN A 1 0 := by omega
        unfold lp_X10_base_59
        rw [show ix 0 = 0 from by decide, e0, hp]
        exact ⟨v0, fun _ => hQ, fun z => absurd (nI_le (Nat.le_refl _) (by omega)) z⟩
      | succ n ih =>
        intro p hp
        unfold lp_X10_base_59 jn_X10_base_115
        rw [show ix 0 = 0 from by decide, e0]
        refine ⟨v0, fun z => absurd z (nI_ge (by omega) (by omega)), fun _ => ?_⟩
        refine hg p (fun x => lp_X10_base_59 I (nI b) v Q (n + 1) (nI (tot g p) + x) (nI p + 1)) (by omega) ?_
        show lp_X10_base_59 I (nI b) v Q (n + 1) (nI (tot g p) + nI (g p)) (nI p + 1)
        rw [nI_add, nI_1]
        exact ih (p + 1) (by omega)
    refine ⟨sN A 1 0 + 1, ?_⟩
    rw [← nI_0]
    exact key (sN A 1 0) 0 (by omega)
  unfold wp_X10_base wp_X10_isIn
  refine r_isBase h hs (fun _ => ⟨fun z => absurd z (by decide), fun _ => ?_⟩) (fun z => absurd ⟨b, hb, rfl⟩ z)
  unfold baseV at hQ
  have out : (v < 0 ∨ 4 < v) → Q (-1) := by
    intro hv
    have a0 : ¬ v = 0 := fun g => by rw [g] at hv; revert hv; decide
    have a1 : ¬ v = 1 := fun g => by rw [g] at hv; revert hv; decide
    have a2 : ¬ v = 2 := fun g => by rw [g] at hv; revert hv; decide
    have a3 : ¬ v = 3 := fun g => by rw [g] at hv; revert hv; decide
    have a4 : ¬ v = 4 := fun g => by rw [g] at hv; revert hv; decide
    rw [if_neg a0, if_neg a1, if_neg a2, if_neg a3, if_neg a4] at hQ
    exact hQ
  refine ⟨fun z => ⟨fun w => absurd rfl w, fun _ => out (Or.inl z)⟩, fun z => ⟨fun w => ⟨fun u => absurd rfl u, fun _ => out (Or.inr w)⟩, fun w => ⟨fun _ => ?_, fun u => absurd u (by decide)⟩⟩⟩
  refine ⟨fun a0 => ⟨fun a3 => ?_, fun a3 => ?_⟩, fun a0 => ?_⟩
  · rw [if_neg a0] at hQ
    by_cases a1 : v = 1
    · rw [if_pos a1] at hQ
      refine lp (fun p => (sW A).countP (fun x => x.1 == 4 * b + p)) (fun p Q' hp hq => ⟨fun u => absurd a1 u, fun _ => r_wantsOf' h (fun x hx => (hw.2.2.1 x hx).1) (by omega) (by omega) hq⟩) ?_
      rw [split_base (fun w : Nat × Nat × Nat => w.1) b (sN A 1 0) (by omega) (sW A) (fun x hx => (hd.2.2.2.1 x hx).1.2)]
      exact hQ
    · rw [if_neg a1] at hQ
      by_cases a2 : v = 2
      · rw [if_pos a2] at hQ
        refine lp (fun p => (sC A).countP (fun x => x.1 == 4 * b + p)) (fun p Q' hp hq => ⟨fun _ => ⟨fun u => absurd a2 u, fun _ => r_callsOf h (fun x hx => (hw.2.2.2.1 x hx).1) (by omega) (by omega) hq⟩, fun u => absurd u a1⟩) ?_
        rw [split_base (fun w : Nat × Nat => w.1) b (sN A 1 0) (by omega) (sC A) (fun x hx => (hd.2.2.2.2.1 x hx).1.2)]
        exact hQ
      · rw [if_neg a2, if_neg a3] at hQ
        have a4 : v = 4 := by
          obtain ⟨j, hj, rfl⟩ := nI_of z
          have : j ≤ 4 := by
            rcases Nat.lt_or_ge 4 j with q | q
            · exact absurd (nI_lt q hj) w
            · exact q
          have c : ∀ k, j = k → nI j = nI k := fun k e => by rw [e]
          have : j = 0 ∨ j = 1 ∨ j = 2 ∨ j = 3 ∨ j = 4 := by omega
          rcases this with e | e | e | e | e
          · exact absurd (c 0 e) a0
          · exact absurd (c 1 e) a1
          · exact absurd (c 2 e) a2
          · exact absurd (c 3 e) a3
          · exact c 4 e
        rw [if_pos a4] at hQ
        refine lp (fun p => sN A 10 (4 * b + p)) (fun p Q' hp hq => ⟨fun _ => ⟨fun _ => r_cellOf ?_, fun u => absurd u a2⟩, fun u => absurd u a1⟩) hQ
        have g10 : I 337 (62 + (3 * b + p)) = nI (sN A 10 (4 * b + p)) := by
          rw [← ri10 (by omega)]
          exact h.n (rdc (by omega) (by omega) (by omega) (by omega))
        rw [show (62 : Int32) + nI (3 * b + p) = nI (62 + (3 * b + p)) from nI_add 62 _, ix_nI (by omega), g10]
        exact ⟨vp_in_nI (by omega) (by omega), hq⟩
  · have a1 : ¬ v = 1 := fun g => by rw [g] at a3; revert a3; decide
    have a2 : ¬ v = 2 := fun g => by rw [g] at a3; revert a3; decide
    rw [if_neg a0, if_neg a1, if_neg a2, if_pos a3, ← wsum (k := fun _ => true) (P := fun y => y.2.2.1 / 4 == b)] at hQ
    refine r_waysOf (k := 3) (fun y => y.1 == 3 && y.2.2.1 / 4 == b) h hk (by omega) (fun y hy => ?_) ?_
    · simp only [hnm, false_or, true_or, true_and, Bool.and_eq_true, beq_iff_eq]
      exact ⟨fun ⟨a, c⟩ => ⟨a, (gY3 (by omega) a (by have := hy16 y hy; omega) (by omega)).mpr c⟩, fun ⟨a, c⟩ => ⟨a, (gY3 (by omega) a (by have := hy16 y hy; omega) (by omega)).mp c⟩⟩
    · refine r_waysOf (k := 4) (fun y => y.1 == 4 && y.2.2.1 / 4 == b) h hk (by omega) (fun y hy => ?_) ?_
      · simp only [hnm, false_or, true_or, true_and, Bool.and_eq_true, beq_iff_eq]
        exact ⟨fun ⟨a, c⟩ => ⟨a, (gY3 (by omega) a (by have := hy16 y hy; omega) (by omega)).mpr c⟩, fun ⟨a, c⟩ => ⟨a, (gY3 (by omega) a (by have := hy16 y hy; omega) (by omega)).mp c⟩⟩
      · rw [nI_add]
        exact hQ
  · rw [if_pos a0] at hQ
    rw [show (29 : Int32) + nI b = nI (29 + b) from nI_add 29 b, ix_nI (by omega), e29]
    exact ⟨vp_in_nI (by omega) (by omega), hQ⟩
theorem rdC {j b p : Nat} (h1 : 7 ≤ j) (h2 : j ≤ 11) (hb : b < 3) (hp : p < 3) : rd j (4 * b + p) = true := rdc h1 h2 (by omega) (by omega)
theorem r_cell {b p : Nat} {v : Int32} {Q : Int32 → Prop} (h : RR I A Y) (hs : SetOk A) (hd : DynOk A) (hw : Wf A) (hb : b < sN A 1 1) (hp : p < sN A 1 0) (hQ : Q (cellV A (4 * b + p) v)) : wp_X10_cell I (nI b) (nI p) v Q := by
  have h3 := hs.1.1
  have h4 := hs.1.2.1
  have hk : ∀ y ∈ sY A, y.1 ≤ 4 := fun y hy => (hd.2.2.2.2.2.1 y hy).1
  have hy16 : ∀ y ∈ sY A, y.2.2.1 < 16 := fun y hy => (hw.1 y hy).2.2.1
  have hnm := nI_nm (k := b) (by omega)
  have hnp := nI_nm (k := p) (by omega)
  have eb : (4 * b + p) / 4 = b := by omega
  have ep : (4 * b + p) % 4 = p := by omega
  have g7 : I 337 (32 + (3 * b + p)) = nI (sN A 7 (4 * b + p)) := by
    have := h.n (rdC (j := 7) (b := b) (p := p) (by omega) (by omega) (by omega) (by omega))
    rw [show ri 7 (4 * b + p) = 32 + (3 * ((4 * b + p) / 4) + (4 * b + p) % 4) from rfl, eb, ep] at this
    exact this
  have g8 : I 337 (41 + (3 * b + p)) = nI (sN A 8 (4 * b + p)) := by
    have := h.n (rdC (j := 8) (b := b) (p := p) (by omega) (by omega) (by omega) (by omega))
    rw [show ri 8 (4 * b + p) = 41 + (3 * ((4 * b + p) / 4) + (4 * b + p) % 4) from rfl, eb, ep] at this
    exact this
  have g9 : I 337 (50 + (3 * b + p)) = nI (sN A 9 (4 * b + p)) := by
    have := h.n (rdC (j := 9) (b := b) (p := p) (by omega) (by omega) (by omega) (by omega))
    rw [show ri 9 (4 * b + p) = 50 + (3 * ((4 * b + p) / 4) + (4 * b + p) % 4) from rfl, eb, ep] at this
    exact this
  have g10 : I 337 (62 + (3 * b + p)) = nI (sN A 10 (4 * b + p)) := by
    have := h.n (rdC (j := 10) (b := b) (p := p) (by omega) (by omega) (by omega) (by omega))
    rw [show ri 10 (4 * b + p) = 62 + (3 * ((4 * b + p) / 4) + (4 * b + p) % 4) from rfl, eb, ep] at this
    exact this
  have g11 : I 337 (74 + (3 * b + p)) = nI (sN A 11 (4 * b + p)) := by
    have := h.n (rdC (j := 11) (b := b) (p := p) (by omega) (by omega) (by omega) (by omega))
    rw [show ri 11 (4 * b + p) = 74 + (3 * ((4 * b + p) / 4) + (4 * b + p) % 4) from rfl, eb, ep] at this
    exact this
  have g12 : I 337 (83 + (3 * b + p)) = sT A 12 (4 * b + p) := by
    rw [← ti12 (by omega)]
    exact h.t (td12 (by omega) (by omega))
  unfold wp_X10_cell
  refine r_isCell h hs (fun b' p' _ _ _ _ => ⟨fun _ => r_cellOf ?_, fun z => absurd z (by decide)⟩) (fun z => absurd ⟨⟨b, hb, rfl⟩, ⟨p, hp, rfl⟩⟩ z)
  rw [show (32 : Int32) + nI (3 * b + p) = nI (32 + (3 * b + p)) from nI_add 32 _, show (41 : Int32) + nI (3 * b + p) = nI (41 + (3 * b + p)) from nI_add 41 _, show (50 : Int32) + nI (3 * b + p) = nI (50 + (3 * b + p)) from nI_add 50 _, show (62 : Int32) + nI (3 * b + p) = nI (62 + (3 * b + p)) from nI_add 62 _, show (74 : Int32) + nI (3 * b + p) = nI (74 + (3 * b + p)) from nI_add 74 _, show (83 : Int32) + nI (3 * b + p) = nI (83 + (3 * b + p)) from nI_add 83 _, ix_nI (n := 32 + (3 * b + p)) (by omega), ix_nI (n := 41 + (3 * b + p)) (by omega), ix_nI (n := 50 + (3 * b + p)) (by omega), ix_nI (n := 62 + (3 * b + p)) (by omega), ix_nI (n := 74 + (3 * b + p)) (by omega), ix_nI (n := 83 + (3 * b + p)) (by omega), g7, g8, g9, g10, g11, g12]
  have vi : ∀ n, n < 2212 → vp_in (nI n) 2212 := fun n hn => vp_in_nI hn (by omega)
  unfold cellV at hQ
  have wo : ∀ k, k ≠ 2 → ∀ y ∈ sY A, (y.1 == k && y.2.2.1 == 4 * b + p) = true ↔ (y.1 = k ∧ (nI p = -1 ∨ nI (y.2.2.1 % 4) = nI p) ∧ (nI b = -1 ∨ gY y 3 = nI b)) := by
    intro k hk2 y hy
    have h16 := hy16 y hy
    simp only [hnm, hnp, false_or, Bool.and_eq_true, beq_iff_eq]
    constructor
    · rintro ⟨a, c⟩
      exact ⟨a, by rw [c, ep], (gY3 hk2 a (by omega) (by omega)).mpr (by omega)⟩
    · rintro ⟨a, c, d⟩
      have c := (nI_eq (by omega) (by omega)).mp c
      have d := (gY3 hk2 a (by omega) (by omega)).mp d
      exact ⟨a, by omega⟩
  refine wi hQ (fun g => ⟨vi _ (by omega), g⟩) (fun hQ => wi hQ (fun g => ⟨vi _ (by omega), g⟩) (fun hQ => wi hQ (fun g => ⟨vi _ (by omega), g⟩) (fun hQ => wi hQ (fun g => ⟨vi _ (by omega), g⟩) (fun hQ => wi hQ (fun g => ⟨vi _ (by omega), g⟩) (fun hQ => wi hQ (fun hQ => ?_) (fun hQ => wi hQ (fun hQ => ?_) (fun hQ => wi hQ (fun hQ => ?_) (fun hQ => wi hQ (fun g => ⟨vi _ (by omega), g⟩) id))))))))
  · exact r_callsOf h (fun x hx => (hw.2.2.2.1 x hx).1) (by omega) (by omega) hQ
  · rw [← wsum (k := fun _ => true) (P := fun y => y.2.2.1 == 4 * b + p)] at hQ
    refine r_waysOf (k := 3) (fun y => y.1 == 3 && y.2.2.1 == 4 * b + p) h hk (by omega) (wo 3 (by omega)) ?_
    refine r_waysOf (k := 4) (fun y => y.1 == 4 && y.2.2.1 == 4 * b + p) h hk (by omega) (wo 4 (by omega)) ?_
    rw [nI_add]
    exact hQ
  · exact r_waysOf (k := 0) (fun y => y.1 == 0 && y.2.2.1 == 4 * b + p) h hk (by omega) (wo 0 (by omega)) hQ
end RASK
