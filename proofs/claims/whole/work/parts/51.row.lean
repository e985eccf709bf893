-- rows of slips as lists
def rowIs (I : MI) (L : ML) (r N : Nat) (xs : List Int64) : Prop := I r 1 = nI xs.length ∧ xs.length ≤ N ∧ N < 2 ^ 31 ∧ ∀ (i : Nat) (x : Int64), xs[i]? = some x → L (r + 1) i = x
theorem ix_nI {n : Nat} (h : n < 2 ^ 31) : ix (nI n) = n := nI_clamp h
theorem u2_at {α : Type} (f : Nat → Nat → α) (k i : Nat) (v : α) (a b : Nat) : u2 f k i v a b = if a = k ∧ b = i then v else f a b := by
  unfold u2
  by_cases h : a = k
  · subst h
    by_cases h2 : b = i <;> simp [h2]
  · simp [h]
theorem lt_of_get {α : Type} {xs : List α} {i : Nat} {x : α} (h : xs[i]? = some x) : i < xs.length := (List.getElem?_eq_some_iff.mp h).1
section ROW
variable {I : MI} {L : ML} {r N : Nat} {xs : List Int64}
theorem rowIs.sz (h : rowIs I L r N xs) : xs.length < 2 ^ 31 := Nat.lt_of_le_of_lt h.2.1 h.2.2.1
theorem r_at {i : Nat} {x : Int64} {Q : Int64 → Prop} (h : rowIs I L r N xs) (hx : xs[i]? = some x) (hQ : Q x) : wp_X4_at r N L (nI i) Q := by
  have hi := lt_of_get hx
  have hN := h.2.1
  have hz := h.2.2.1
  unfold wp_X4_at
  refine ⟨fun c => absurd c (nI_pos (by omega)), fun _ => ⟨fun c => absurd c (nI_ge (by omega) hz), fun _ => ⟨vp_in_nI (by omega) hz, ?_⟩⟩⟩
  rw [ix_nI (by omega), h.2.2.2 i x hx]
  exact hQ
theorem r_has {k : Int32} {Q : Int32 → Prop} (h : rowIs I L r N xs) (h1 : ∀ i : Nat, i < xs.length → k = nI i → Q 1) (h0 : (∀ i : Nat, i < xs.length → ¬ k = nI i) → Q 0) : wp_X4_has r N I k Q := by
  have hz := h.sz
  unfold wp_X4_has
  rw [h.1]
  refine ⟨fun c => h0 (fun i hi e => ?_), fun c => ⟨fun c2 => h0 (fun i hi e => ?_), fun c2 => ?_⟩⟩
  · rw [e] at c; exact absurd c (nI_pos (by omega))
  · rw [e] at c2; exact absurd c2 (nI_ge hi hz)
  · obtain ⟨j, hj, rfl⟩ := nI_of c
    have hj2 : j < xs.length := by
      rcases Nat.lt_or_ge j xs.length with q | q
      · exact q
      · exact absurd (nI_le q hj) c2
    exact ⟨fun c3 => absurd c3 (nI_ge (Nat.lt_of_lt_of_le hj2 h.2.1) h.2.2.1), fun _ => h1 j hj2 rfl⟩
theorem r_hasY {i : Nat} {Q : Int32 → Prop} (h : rowIs I L r N xs) (hi : i < xs.length) (h1 : Q 1) : wp_X4_has r N I (nI i) Q :=
  r_has h (fun _ _ _ => h1) (fun z => absurd rfl (z i hi))
theorem r_add {x : Int64} {Q : MI → ML → Prop} (h : rowIs I L r N xs) (hl : xs.length < N) (hQ : ∀ I' L', I' = u2 I r 1 (nI (xs.length + 1)) → L' = u2 L (r + 1) xs.length x → rowIs I' L' r N (xs ++ [x]) → Q I' L') : wp_X4_add r N I L x Q := by
  have hz := h.2.2.1
  unfold wp_X4_add
  rw [h.1]
  refine ⟨fun c => absurd c (nI_ge hl hz), fun _ => ⟨vp_in_nI hl hz, fun L' e1 I' e2 => ?_⟩⟩
  rw [ix_nI (by omega)] at e1
  rw [nI_1] at e2
  refine hQ I' L' e2 e1 ⟨?_, ?_, hz, ?_⟩
  · rw [e2, u2_s, List.length_append]; rfl
  · rw [List.length_append]; exact hl
  · intro i y hy
    rw [e1, u2_at]
    by_cases hi : i = xs.length
    · subst hi
      rw [if_pos ⟨rfl, rfl⟩]
      simp at hy
      exact hy
    · rw [if_neg (fun q => hi q.2)]
      apply h.2.2.2 i y
      have := lt_of_get hy
      rw [List.length_append] at this
      rwa [List.getElem?_append_left (by simp at this; omega)] at hy
theorem r_put {i : Nat} {x : Int64} {Q : ML → Prop} (h : rowIs I L r N xs) (hi : i < xs.length) (hQ : ∀ L', L' = u2 L (r + 1) i x → rowIs I L' r N (xs.set i x) → Q L') : wp_X4_put r N I L (nI i) x Q := by
  have hz := h.2.2.1
  have hN := h.2.1
  unfold wp_X4_put
  refine r_hasY h hi ⟨fun c => absurd c (by decide), fun _ => ⟨vp_in_nI (by omega) hz, fun L' e => ?_⟩⟩
  rw [ix_nI (by omega)] at e
  refine hQ L' e ⟨by rw [h.1, List.length_set], by rw [List.length_set]; exact hN, hz, fun j y hy => ?_⟩
  rw [e, u2_at]
  by_cases hj : j = i
  · subst hj
    rw [if_pos ⟨rfl, rfl⟩]
    rw [List.getElem?_set_self hi] at hy
    exact Option.some.inj hy
  · rw [if_neg (fun q => hj q.2)]
    rw [List.getElem?_set_ne (fun q => hj q.symm)] at hy
    exact h.2.2.2 j y hy
theorem r_removeAt {i : Nat} {Q : MI → ML → Prop} (h : rowIs I L r N xs) (hi : i < xs.length) (hQ : ∀ I' L', I' = u2 I r 1 (nI (xs.length - 1)) → (∀ k, k ≠ r + 1 → L' k = L k) → rowIs I' L' r N (xs.eraseIdx i) → Q I' L') : wp_X4_removeAt r N I L (nI i) Q := by
  have hz := h.2.2.1
  have hN := h.2.1
  unfold wp_X4_removeAt
  refine r_hasY h hi ⟨fun _ => ?_, fun c => absurd c (by decide)⟩
  have e0 : I r 1 - 1 = nI (xs.length - 1) := by rw [h.1]; obtain ⟨q, hq⟩ : ∃ q, xs.length = q + 1 := ⟨xs.length - 1, by omega⟩; rw [hq, nI_pred]; rfl
  have e1 : I r 1 - 1 - nI i = nI (xs.length - 1 - i) := by rw [e0, pk_sub (by omega)]
  have e2 : nI i + 1 = nI (i + 1) := nI_1 i
  rw [e1, e2]
  refine ⟨nI_pos (by omega), nI_pos (by omega), nI_pos (by omega), ?_, ?_, fun L' eL I' eI => ?_⟩
  · rw [ix_nI (by omega), ix_nI (by omega)]; omega
  · rw [ix_nI (by omega), ix_nI (by omega)]; omega
  · rw [ix_nI (by omega), ix_nI (by omega), ix_nI (by omega)] at eL
    rw [e0] at eI
    refine hQ I' L' eI (fun k hk => by rw [eL]; exact ur_ne hk) ⟨?_, ?_, hz, fun j y hy => ?_⟩
    · rw [eI, u2_s, List.length_eraseIdx_of_lt hi]
    · rw [List.length_eraseIdx_of_lt hi]; omega
    · have hj := lt_of_get hy
      rw [List.length_eraseIdx_of_lt hi] at hj
      rw [List.getElem?_eraseIdx] at hy
      rw [eL, ur_self]
      by_cases hji : j < i
      · rw [if_pos hji] at hy
        rw [pk_cpy_out (Or.inl hji)]
        exact h.2.2.2 j y hy
      · rw [if_neg hji] at hy
        rw [pk_cpy_in (by omega) (by omega)]
        rw [show i + 1 + (j - i) = j + 1 by omega]
        exact h.2.2.2 _ y hy
theorem r_copyFrom {r1 N1 : Nat} {ys : List Int64} {Q : MI → ML → Prop} (h1 : rowIs I L r1 N1 ys) (hN : ys.length ≤ N) (hz : N < 2 ^ 31) (hr : r ≠ r1) (hQ : ∀ I' L', I' = u2 I r 1 (nI ys.length) → (∀ k, k ≠ r + 1 → L' k = L k) → rowIs I' L' r N ys → Q I' L') : wp_X4_copyFrom r N r1 N1 I L Q := by
  have hz1 := h1.sz
  unfold wp_X4_copyFrom
  intro I' e
  have e1 : (if Int32.ofNat N < I r1 1 then Int32.ofNat N else I r1 1) = nI ys.length := by
    rw [h1.1]
    exact if_neg (show ¬ nI N < nI ys.length from nI_nlt hN hz)
  rw [e1] at e
  have e2 : I' r 1 = nI ys.length := by rw [e, u2_s]
  rw [e2]
  refine ⟨nI_pos hz1, ?_, ?_, fun L' eL => ?_⟩
  · rw [ix_nI hz1]; show 0 + _ ≤ _; have := h1.2.1; omega
  · rw [ix_nI hz1]; show 0 + _ ≤ _; omega
  · rw [ix_nI hz1, show ix 0 = 0 from by decide] at eL
    refine hQ I' L' e (fun k hk => by rw [eL]; exact ur_ne hk) ⟨e2, hN, hz, fun j y hy => ?_⟩
    rw [eL, ur_self]
    have hj := lt_of_get hy
    rw [pk_cpy_in (Nat.zero_le _) (by show j < 0 + _; omega)]
    show L (r1 + 1) (0 + (j - 0)) = y
    rw [show 0 + (j - 0) = j by omega]
    exact h1.2.2.2 j y hy
/-- how many slips of a kind -/
theorem r_countAt {v1 v2 : Int32} {Q : Int32 → Prop} (P : Int64 → Bool) (hP : ∀ x ∈ xs, (lg_cmp (x &&& v1.toInt64) v2.toInt64 = 0) ↔ P x = true) (h : rowIs I L r N xs) (hQ : Q (nI (xs.countP P))) : wp_X4_countAt r N I L v1 v2 Q := by
  have hz := h.sz
  have hN := h.2.1
  have hzN := h.2.2.1
  have key : ∀ (m i : Nat), i + m = xs.length → ∃ n, lp_X4_countAt_5 r N I L v1 v2 Q n (nI ((xs.take i).countP P)) (nI i) := by
    intro m
    induction m with
    | zero =>
      intro i hi
      refine ⟨1, ?_⟩
      unfold lp_X4_countAt_5
      rw [h.1]
      have hi : i = xs.length := by omega
      subst hi
      refine ⟨fun _ => by rw [List.take_length]; exact hQ, fun c => absurd (nI_le (Nat.le_refl _) hz) c⟩
    | succ m ih =>
      intro i hi
      obtain ⟨n, hn⟩ := ih (i + 1) (by omega)
      refine ⟨n + 1, ?_⟩
      have hil : i < xs.length := by omega
      have hx : xs[i]? = some xs[i] := List.getElem?_eq_getElem hil
      have hmem : xs[i] ∈ xs := List.getElem_mem hil
      unfold lp_X4_countAt_5
      rw [h.1, ix_nI (by omega), h.2.2.2 i _ hx]
      have ht : (xs.take (i + 1)).countP P = (xs.take i).countP P + (if P xs[i] then 1 else 0) := by
        rw [List.take_succ, hx, List.countP_append]
        simp [List.countP_cons]
      refine ⟨fun c => absurd c (nI_ge hil hz), fun _ => ⟨vp_in_nI (by omega) hzN, fun c => ?_, fun c => ?_⟩⟩
      · unfold jn_X4_countAt_33
        have hf : P xs[i] = false := by
          cases hp : P xs[i] with
          | false => rfl
          | true => exact absurd ((hP _ hmem).mpr hp) c
        rw [nI_1]
        rw [ht, hf] at hn
        exact hn
      · unfold jn_X4_countAt_33
        have hf := (hP _ hmem).mp c
        rw [nI_1, nI_1]
        rw [ht, hf] at hn
        exact hn
  unfold wp_X4_countAt
  obtain ⟨n, hn⟩ := key xs.length 0 (by omega)
  exact ⟨n, by simpa [nI_0] using hn⟩
/-- where the k-th slip of a kind is -/
def fidx {α : Type} (P : α → Bool) : List α → Nat → Nat → Option Nat
  | [], _, _ => none
  | x :: xs, i, k => if P x then (match k with
    | 0 => some i
    | k + 1 => fidx P xs (i + 1) k) else fidx P xs (i + 1) k
theorem fidx_cons {α : Type} (P : α → Bool) (x : α) (xs : List α) (i k : Nat) : fidx P (x :: xs) i k = if P x then (match k with | 0 => some i | k + 1 => fidx P xs (i + 1) k) else fidx P xs (i + 1) k := by
  cases k <;> rfl
theorem r_findAt {v1 v2 : Int32} {k : Nat} {Q : Int32 → Prop} (P : Int64 → Bool) (hk : k < 2 ^ 31) (hP : ∀ x ∈ xs, (lg_cmp (x &&& v1.toInt64) v2.toInt64 = 0) ↔ P x = true) (h : rowIs I L r N xs) (hQ : ∀ j, fidx P xs 0 k = some j → Q (nI j)) (hQ0 : fidx P xs 0 k = none → Q (-1)) : wp_X4_findAt r N I L v1 v2 (nI k) Q := by
  have hz := h.sz
  have hN := h.2.1
  have hzN := h.2.2.1
  have key : ∀ (m i q : Nat), i + m = xs.length → q ≤ k → fidx P (xs.drop i) i (k - q) = fidx P xs 0 k → ∃ n, lp_X4_findAt_6 r N I L v1 v2 (nI k) Q n (nI q) (nI i) := by
    intro m
    induction m with
    | zero =>
      intro i q hi hq hf
      refine ⟨1, ?_⟩
      unfold lp_X4_findAt_6
      rw [h.1]
      have hi : i = xs.length := by omega
      subst hi
      rw [List.drop_length] at hf
      exact ⟨fun _ => hQ0 hf.symm, fun c => absurd (nI_le (Nat.le_refl _) hz) c⟩
    | succ m ih =>
      intro i q hi hq hf
      have hil : i < xs.length := by omega
      have hx : xs[i]? = some xs[i] := List.getElem?_eq_getElem hil
      have hmem : xs[i] ∈ xs := List.getElem_mem hil
      rw [List.drop_eq_getElem_cons hil] at hf
      rw [fidx_cons] at hf
      cases hp : P xs[i] with
      | false =>
        simp only [hp, Bool.false_eq_true, if_false] at hf
        obtain ⟨n, hn⟩ := ih (i + 1) q (by omega) hq hf
        refine ⟨n + 1, ?_⟩
        unfold lp_X4_findAt_6
        rw [h.1, ix_nI (by omega), h.2.2.2 i _ hx]
        refine ⟨fun c => absurd c (nI_ge hil hz), fun _ => ⟨vp_in_nI (by omega) hzN, fun c => ?_, fun c => ?_⟩⟩
        · unfold jn_X4_findAt_43
          rw [nI_1]
          exact hn
        · exact absurd ((hP _ hmem).mp c) (by rw [hp]; decide)
      | true =>
        simp only [hp, if_true] at hf
        by_cases hqk : q = k
        · subst hqk
          rw [Nat.sub_self] at hf
          refine ⟨1, ?_⟩
          unfold lp_X4_findAt_6
          rw [h.1, ix_nI (by omega), h.2.2.2 i _ hx]
          refine ⟨fun c => absurd c (nI_ge hil hz), fun _ => ⟨vp_in_nI (by omega) hzN, fun c => absurd ((hP _ hmem).mpr hp) c, fun _ => ⟨fun c => absurd rfl c, fun _ => hQ i hf.symm⟩⟩⟩
        · obtain ⟨w, hw⟩ : ∃ w, k - q = w + 1 := ⟨k - q - 1, by omega⟩
          rw [hw] at hf
          simp only at hf
          obtain ⟨n, hn⟩ := ih (i + 1) (q + 1) (by omega) (by omega) (by rw [show k - (q + 1) = w by omega]; exact hf)
          refine ⟨n + 1, ?_⟩
          unfold lp_X4_findAt_6
          rw [h.1, ix_nI (by omega), h.2.2.2 i _ hx]
          refine ⟨fun c => absurd c (nI_ge hil hz), fun _ => ⟨vp_in_nI (by omega) hzN, fun c => absurd ((hP _ hmem).mpr hp) c, fun _ => ⟨fun _ => ?_, fun c => ?_⟩⟩⟩
          · unfold jn_X4_findAt_43
            rw [nI_1, nI_1]
            exact hn
          · exact absurd ((nI_eq (by omega) hk).mp c) hqk
  unfold wp_X4_findAt
  obtain ⟨n, hn⟩ := key xs.length 0 0 (by omega) (Nat.zero_le _) (by rw [List.drop_zero, Nat.sub_zero])
  exact ⟨n, by simpa [nI_0] using hn⟩
/-- a slip comes behind all that aren't greater -/
theorem r_insert {x : Int64} {Q : MI → ML → Prop} (h : rowIs I L r N xs) (hl : xs.length < N) (hQ : ∀ (i : Nat) I' L', i ≤ xs.length → (∀ y, 0 < i → xs[i - 1]? = some y → lg_cmp y x ≤ 0) → (∀ j y, i ≤ j → xs[j]? = some y → ¬ lg_cmp y x ≤ 0) → I' = u2 I r 1 (nI (xs.length + 1)) → (∀ k, k ≠ r + 1 → L' k = L k) → rowIs I' L' r N (xs.take i ++ x :: xs.drop i) → Q I' L') : wp_X4_insertInOrder r N I L x Q := by
  have hz := h.sz
  have hzN := h.2.2.1
  unfold wp_X4_insertInOrder
  rw [h.1]
  refine ⟨fun _ => ?_, fun c => absurd (nI_lt hl hzN) c⟩
  have key : ∀ (i : Nat) (L' : ML), i ≤ xs.length → (∀ k, k ≠ r + 1 → L' k = L k) → (∀ j y, j < i → xs[j]? = some y → L' (r + 1) j = y) → (∀ j y, i ≤ j → xs[j]? = some y → L' (r + 1) (j + 1) = y ∧ ¬ lg_cmp y x ≤ 0) → ∃ n, lp_X4_insertInOrder_18 r N x (fun x9 L10 => jn_X4_insertInOrder_55 r N I L10 x x9 Q) n (nI i) L' := by
    have done : ∀ (i : Nat) (L' : ML), i ≤ xs.length → (∀ y, 0 < i → xs[i - 1]? = some y → lg_cmp y x ≤ 0) → (∀ k, k ≠ r + 1 → L' k = L k) → (∀ j y, j < i → xs[j]? = some y → L' (r + 1) j = y) → (∀ j y, i ≤ j → xs[j]? = some y → L' (r + 1) (j + 1) = y ∧ ¬ lg_cmp y x ≤ 0) → jn_X4_insertInOrder_55 r N I L' x (nI i) Q := by
      intro i L' hi hle hfr hlo hhi
      unfold jn_X4_insertInOrder_55
      refine ⟨vp_in_nI (by omega) hzN, fun L2 e2 I2 e3 => ?_⟩
      rw [ix_nI (by omega)] at e2
      rw [h.1, nI_1] at e3
      refine hQ i I2 L2 hi hle (fun j y hj hy => (hhi j y hj hy).2) e3 (fun k hk => by rw [e2, u2_ne hk]; exact hfr k hk) ⟨?_, ?_, hzN, ?_⟩
      · rw [e3, u2_s]
        congr 1
        simp
        omega
      · simp
        omega
      · intro j y hy
        rw [e2, u2_at]
        by_cases hj : j = i
        · subst hj
          rw [if_pos ⟨rfl, rfl⟩]
          rw [List.getElem?_append_right (by simp; omega)] at hy
          simp [Nat.min_eq_left hi] at hy
          exact hy
        · rw [if_neg (fun q => hj q.2)]
          by_cases hji : j < i
          · rw [List.getElem?_append_left (by simp; omega), List.getElem?_take_of_lt hji] at hy
            exact hlo j y hji hy
          · rw [List.getElem?_append_right (by simp; omega)] at hy
            simp only [List.length_take, Nat.min_eq_left hi] at hy
            obtain ⟨q, hq⟩ : ∃ q, j - i = q + 1 := ⟨j - i - 1, by omega⟩
            rw [hq, List.getElem?_cons_succ, List.getElem?_drop] at hy
            have := (hhi (i + q) y (by omega) hy).1
            rw [show i + q + 1 = j by omega] at this
            exact this
    intro i
    induction i with
    | zero =>
      intro L' hi hfr hlo hhi
      refine ⟨1, ?_⟩
      unfold lp_X4_insertInOrder_18
      refine ⟨fun _ => done 0 L' hi (fun _ h => absurd h (by omega)) hfr hlo hhi, fun c => absurd (by decide) c⟩
    | succ i ih =>
      intro L' hi hfr hlo hhi
      have hx : xs[i]? = some xs[i] := List.getElem?_eq_getElem (by omega)
      have e0 : nI (i + 1) - 1 = nI i := nI_pred i
      have e4 : nI (i + 1) + (-1) = nI i := pk_m1 i
      by_cases hc : lg_cmp xs[i] x ≤ 0
      · refine ⟨1, ?_⟩
        unfold lp_X4_insertInOrder_18
        rw [e0, ix_nI (by omega), hlo i _ (by omega) hx]
        refine ⟨fun c => absurd c (nI_nle (by omega) (by omega)), fun _ => ⟨vp_in_nI (by omega) hzN, fun _ => done (i + 1) L' hi (fun y _ hy => ?_) hfr hlo hhi, fun c => absurd hc c⟩⟩
        rw [Nat.add_sub_cancel, hx] at hy
        cases hy
        exact hc
      · obtain ⟨n, hn⟩ := ih (u2 L' (r + 1) (i + 1) xs[i]) (by omega) (fun k hk => by rw [u2_ne hk]; exact hfr k hk) (fun j y hj hy => by rw [u2_n2 (by omega)]; exact hlo j y (by omega) hy) (fun j y hj hy => by
          by_cases hji : j = i
          · subst hji
            rw [hx] at hy
            cases hy
            exact ⟨u2_s, hc⟩
          · rw [u2_n2 (by omega)]
            exact hhi j y (by omega) hy)
        refine ⟨n + 1, ?_⟩
        unfold lp_X4_insertInOrder_18
        rw [e0, e4, ix_nI (by omega), ix_nI (by omega), hlo i _ (by omega) hx]
        refine ⟨fun c => absurd c (nI_nle (by omega) (by omega)), fun _ => ⟨vp_in_nI (by omega) hzN, fun c => absurd c hc, fun _ => ⟨vp_in_nI (by omega) hzN, vp_in_nI (by omega) hzN, fun L2 e2 => ?_⟩⟩⟩
        rw [e2]
        exact hn
  exact key xs.length L (Nat.le_refl _) (fun _ _ => rfl) (fun j y _ hy => h.2.2.2 j y hy) (fun j y hj hy => absurd (lt_of_get hy) (by omega))
end ROW
