/-! the abstract state of a Play: numbers by class offset and slot (sN), counters (sT), wants (place, day, mark), calls (place, day), ways (kind, number, place, day) by day then number, the parts that wait -/
abbrev St : Type := (Nat → Nat → Nat) × (Nat → Nat → Int32) × List (Nat × Nat × Nat) × List (Nat × Nat) × List (Nat × Nat × Nat × Nat) × List Nat
abbrev sN (A : St) : Nat → Nat → Nat := A.1
abbrev sT (A : St) : Nat → Nat → Int32 := A.2.1
abbrev sW (A : St) : List (Nat × Nat × Nat) := A.2.2.1
abbrev sC (A : St) : List (Nat × Nat) := A.2.2.2.1
abbrev sY (A : St) : List (Nat × Nat × Nat × Nat) := A.2.2.2.2.1
abbrev sQ (A : St) : List Nat := A.2.2.2.2.2
abbrev setN (A : St) (j i v : Nat) : St := (u2 A.1 j i v, A.2)
abbrev setT (A : St) (j i : Nat) (v : Int32) : St := (A.1, u2 A.2.1 j i v, A.2.2)
abbrev setW (A : St) (w : List (Nat × Nat × Nat)) : St := (A.1, A.2.1, w, A.2.2.2)
abbrev setC (A : St) (w : List (Nat × Nat)) : St := (A.1, A.2.1, A.2.2.1, w, A.2.2.2.2)
abbrev setY (A : St) (w : List (Nat × Nat × Nat × Nat)) : St := (A.1, A.2.1, A.2.2.1, A.2.2.2.1, w, A.2.2.2.2.2)
abbrev setQ (A : St) (w : List Nat) : St := (A.1, A.2.1, A.2.2.1, A.2.2.2.1, A.2.2.2.2.1, w)
def encW (w : Nat × Nat × Nat) : Int64 := enc w.2.1 0 w.2.2 w.1
def encC (w : Nat × Nat) : Int64 := enc w.2 0 0 w.1
def encY (w : Nat × Nat × Nat × Nat) : Int64 := enc w.2.2.2 w.2.1 w.1 w.2.2.1
def encQ (p : Nat) : Int64 := enc 0 0 0 p
/-- the numbers that are held as natural numbers -/
def nd (j i : Nat) : Prop := (j = 0 ∧ (i = 9 ∨ i = 10 ∨ i = 11)) ∨ (j = 1 ∧ i < 5) ∨ (2 ≤ j ∧ j ≤ 6 ∧ i < 4) ∨ (7 ≤ j ∧ j ≤ 11 ∧ i < 16) ∨ (j = 13 ∧ i < 4)
/-- the Play at o holds the state A -/
def CR (o : Nat) (I : MI) (L : ML) (A : St) : Prop :=
  (∀ j i, nd j i → I (o + j) i = nI (sN A j i)) ∧ (∀ i, i < 16 → I (o + 12) i = sT A 12 i) ∧ (∀ i, 12 ≤ i → i ≤ 18 → I o i = sT A 0 i) ∧
  rowIs I L (o + 14) 184 ((sY A).map encY) ∧ rowIs I L (o + 16) 72 ((sW A).map encW) ∧ rowIs I L (o + 18) 184 ((sC A).map encC) ∧ rowIs I L (o + 20) 184 ((sQ A).map encQ)
/-- nothing beside the Play at o changes -/
def Fr (o : Nat) (I : MI) (L : ML) (I' : MI) (L' : ML) : Prop := ∀ k, (k < o ∨ o + 22 ≤ k) → I' k = I k ∧ L' k = L k
theorem Fr.rf {o : Nat} {I : MI} {L : ML} : Fr o I L I L := fun _ _ => ⟨rfl, rfl⟩
theorem Fr.tr {o : Nat} {I I1 I2 : MI} {L L1 L2 : ML} (h : Fr o I L I1 L1) (h2 : Fr o I1 L1 I2 L2) : Fr o I L I2 L2 := fun k hk => ⟨(h2 k hk).1.trans (h k hk).1, (h2 k hk).2.trans (h k hk).2⟩
theorem Fr.uI {o j i : Nat} {I I' : MI} {L : ML} {v : Int32} (e : I' = u2 I (o + j) i v) (hj : j < 22) : Fr o I L I' L := fun k hk => ⟨by rw [e]; exact u2_ne (by omega), rfl⟩
theorem Fr.row {o j : Nat} {I I' : MI} {L L' : ML} {v : Int32} (hj : j + 1 < 22) (e : I' = u2 I (o + j) 1 v) (hL : ∀ k, k ≠ o + j + 1 → L' k = L k) : Fr o I L I' L' := fun k hk => ⟨by rw [e]; exact u2_ne (by omega), hL k (by omega)⟩
theorem rowIs.fr {I I' : MI} {L L' : ML} {r N : Nat} {xs : List Int64} (h : rowIs I L r N xs) (h1 : I' r 1 = I r 1) (h2 : L' (r + 1) = L (r + 1)) : rowIs I' L' r N xs :=
  ⟨h1.trans h.1, h.2.1, h.2.2.1, fun i x hx => by rw [h2]; exact h.2.2.2 i x hx⟩
section CRS
variable {o : Nat} {I I' : MI} {L L' : ML} {A : St}
theorem CR.n (h : CR o I L A) {j i : Nat} (hd : nd j i) : I (o + j) i = nI (sN A j i) := h.1 j i hd
theorem CR.t0 (h : CR o I L A) {i : Nat} (h1 : 12 ≤ i) (h2 : i ≤ 18) : I o i = sT A 0 i := h.2.2.1 i h1 h2
theorem CR.Y (h : CR o I L A) : rowIs I L (o + 14) 184 ((sY A).map encY) := h.2.2.2.1
theorem CR.W (h : CR o I L A) : rowIs I L (o + 16) 72 ((sW A).map encW) := h.2.2.2.2.1
theorem CR.C (h : CR o I L A) : rowIs I L (o + 18) 184 ((sC A).map encC) := h.2.2.2.2.2.1
theorem CR.Q (h : CR o I L A) : rowIs I L (o + 20) 184 ((sQ A).map encQ) := h.2.2.2.2.2.2
theorem CR.putN (h : CR o I L A) {j i v : Nat} (hd : nd j i) (e : I' = u2 I (o + j) i (nI v)) : CR o I' L (setN A j i v) := by
  have hj : j ≤ 13 := by unfold nd at hd; omega
  have hj2 : j ≠ 12 := by unfold nd at hd; omega
  refine ⟨fun j' i' hd' => ?_, fun i' hi' => ?_, fun i' h1 h2 => ?_, h.Y.fr ?_ rfl, h.W.fr ?_ rfl, h.C.fr ?_ rfl, h.Q.fr ?_ rfl⟩
  · show I' (o + j') i' = nI (u2 A.1 j i v j' i')
    rw [e, u2_at, u2_at]
    by_cases hc : j' = j ∧ i' = i
    · rw [if_pos ⟨by omega, hc.2⟩, if_pos hc]
    · rw [if_neg (fun q => hc ⟨by omega, q.2⟩), if_neg hc]
      exact h.1 j' i' hd'
  · rw [e, u2_ne (by omega)]
    exact h.2.1 i' hi'
  · by_cases hz : j = 0
    · subst hz
      show I' (o + 0) i' = _
      rw [e, u2_n2 (by unfold nd at hd; omega)]
      exact h.2.2.1 i' h1 h2
    · rw [e, u2_ne (by omega)]
      exact h.2.2.1 i' h1 h2
  all_goals (rw [e, u2_ne (by omega)])
theorem CR.putT0 (h : CR o I L A) {i : Nat} {v : Int32} (h1 : 12 ≤ i) (h2 : i ≤ 18) (e : I' = u2 I o i v) : CR o I' L (setT A 0 i v) := by
  refine ⟨fun j' i' hd' => ?_, fun i' hi' => ?_, fun i' h3 h4 => ?_, h.Y.fr ?_ rfl, h.W.fr ?_ rfl, h.C.fr ?_ rfl, h.Q.fr ?_ rfl⟩
  · by_cases hz : j' = 0
    · subst hz
      show I' o i' = _
      rw [e, u2_n2 (by unfold nd at hd'; omega)]
      exact h.1 0 i' hd'
    · rw [e, u2_ne (by omega)]
      exact h.1 j' i' hd'
  · show I' (o + 12) i' = u2 A.2.1 0 i v 12 i'
    rw [e, u2_ne (by omega), u2_ne (by omega)]
    exact h.2.1 i' hi'
  · show I' o i' = u2 A.2.1 0 i v 0 i'
    rw [e, u2_at, u2_at]
    by_cases hc : i' = i
    · rw [if_pos ⟨rfl, hc⟩, if_pos ⟨rfl, hc⟩]
    · rw [if_neg (fun q => hc q.2), if_neg (fun q => hc q.2)]
      exact h.2.2.1 i' h3 h4
  all_goals (rw [e, u2_ne (by omega)])
theorem CR.putT12 (h : CR o I L A) {i : Nat} {v : Int32} (e : I' = u2 I (o + 12) i v) : CR o I' L (setT A 12 i v) := by
  refine ⟨fun j' i' hd' => ?_, fun i' hi' => ?_, fun i' h3 h4 => ?_, h.Y.fr ?_ rfl, h.W.fr ?_ rfl, h.C.fr ?_ rfl, h.Q.fr ?_ rfl⟩
  · rw [e, u2_ne (by unfold nd at hd'; omega)]
    exact h.1 j' i' hd'
  · show I' (o + 12) i' = u2 A.2.1 12 i v 12 i'
    rw [e, u2_at, u2_at]
    by_cases hc : i' = i
    · rw [if_pos ⟨rfl, hc⟩, if_pos ⟨rfl, hc⟩]
    · rw [if_neg (fun q => hc q.2), if_neg (fun q => hc q.2)]
      exact h.2.1 i' hi'
  · show I' o i' = u2 A.2.1 12 i v 0 i'
    rw [e, u2_ne (by omega), u2_ne (by omega)]
    exact h.2.2.1 i' h3 h4
  all_goals (rw [e, u2_ne (by omega)])
theorem CR.putY (h : CR o I L A) {v : Int32} {ys : List (Nat × Nat × Nat × Nat)} (e : I' = u2 I (o + 14) 1 v) (hL : ∀ k, k ≠ o + 14 + 1 → L' k = L k) (hr : rowIs I' L' (o + 14) 184 (ys.map encY)) : CR o I' L' (setY A ys) := by
  refine ⟨fun j' i' hd' => ?_, fun i' hi' => ?_, fun i' h3 h4 => ?_, hr, h.W.fr ?_ (hL _ (by omega)), h.C.fr ?_ (hL _ (by omega)), h.Q.fr ?_ (hL _ (by omega))⟩
  · rw [e, u2_ne (by unfold nd at hd'; omega)]; exact h.1 j' i' hd'
  · rw [e, u2_ne (by omega)]; exact h.2.1 i' hi'
  · rw [e, u2_ne (by omega)]; exact h.2.2.1 i' h3 h4
  all_goals (rw [e, u2_ne (by omega)])
theorem CR.putW (h : CR o I L A) {v : Int32} {ys : List (Nat × Nat × Nat)} (e : I' = u2 I (o + 16) 1 v) (hL : ∀ k, k ≠ o + 16 + 1 → L' k = L k) (hr : rowIs I' L' (o + 16) 72 (ys.map encW)) : CR o I' L' (setW A ys) := by
  refine ⟨fun j' i' hd' => ?_, fun i' hi' => ?_, fun i' h3 h4 => ?_, h.Y.fr ?_ (hL _ (by omega)), hr, h.C.fr ?_ (hL _ (by omega)), h.Q.fr ?_ (hL _ (by omega))⟩
  · rw [e, u2_ne (by unfold nd at hd'; omega)]; exact h.1 j' i' hd'
  · rw [e, u2_ne (by omega)]; exact h.2.1 i' hi'
  · rw [e, u2_ne (by omega)]; exact h.2.2.1 i' h3 h4
  all_goals (rw [e, u2_ne (by omega)])
theorem CR.putC (h : CR o I L A) {v : Int32} {ys : List (Nat × Nat)} (e : I' = u2 I (o + 18) 1 v) (hL : ∀ k, k ≠ o + 18 + 1 → L' k = L k) (hr : rowIs I' L' (o + 18) 184 (ys.map encC)) : CR o I' L' (setC A ys) := by
  refine ⟨fun j' i' hd' => ?_, fun i' hi' => ?_, fun i' h3 h4 => ?_, h.Y.fr ?_ (hL _ (by omega)), h.W.fr ?_ (hL _ (by omega)), hr, h.Q.fr ?_ (hL _ (by omega))⟩
  · rw [e, u2_ne (by unfold nd at hd'; omega)]; exact h.1 j' i' hd'
  · rw [e, u2_ne (by omega)]; exact h.2.1 i' hi'
  · rw [e, u2_ne (by omega)]; exact h.2.2.1 i' h3 h4
  all_goals (rw [e, u2_ne (by omega)])
theorem CR.putQ (h : CR o I L A) {v : Int32} {ys : List Nat} (e : I' = u2 I (o + 20) 1 v) (hL : ∀ k, k ≠ o + 20 + 1 → L' k = L k) (hr : rowIs I' L' (o + 20) 184 (ys.map encQ)) : CR o I' L' (setQ A ys) := by
  refine ⟨fun j' i' hd' => ?_, fun i' hi' => ?_, fun i' h3 h4 => ?_, h.Y.fr ?_ (hL _ (by omega)), h.W.fr ?_ (hL _ (by omega)), h.C.fr ?_ (hL _ (by omega)), hr⟩
  · rw [e, u2_ne (by unfold nd at hd'; omega)]; exact h.1 j' i' hd'
  · rw [e, u2_ne (by omega)]; exact h.2.1 i' hi'
  · rw [e, u2_ne (by omega)]; exact h.2.2.1 i' h3 h4
  all_goals (rw [e, u2_ne (by omega)])
/-- only the wants' marks change: no count -/
theorem CR.putWL (h : CR o I L A) {ys : List (Nat × Nat × Nat)} (hL : ∀ k, k ≠ o + 16 + 1 → L' k = L k) (hr : rowIs I L' (o + 16) 72 (ys.map encW)) : CR o I L' (setW A ys) :=
  ⟨h.1, h.2.1, h.2.2.1, h.Y.fr rfl (hL _ (by omega)), hr, h.C.fr rfl (hL _ (by omega)), h.Q.fr rfl (hL _ (by omega))⟩
end CRS
-- ways in their order
def insY (x : Nat × Nat × Nat × Nat) : List (Nat × Nat × Nat × Nat) → List (Nat × Nat × Nat × Nat)
  | [] => [x]
  | y :: ys => if y.2.2.2 ≤ x.2.2.2 then y :: insY x ys else x :: y :: ys
def ltY (a b : Nat × Nat × Nat × Nat) : Prop := a.2.2.2 < b.2.2.2 ∨ (a.2.2.2 = b.2.2.2 ∧ a.2.1 < b.2.1)
theorem insY_at {x : Nat × Nat × Nat × Nat} : ∀ (ys : List (Nat × Nat × Nat × Nat)) (i : Nat), i ≤ ys.length → (∀ j y, j < i → ys[j]? = some y → y.2.2.2 ≤ x.2.2.2) → (∀ y, ys[i]? = some y → ¬ y.2.2.2 ≤ x.2.2.2) → insY x ys = ys.take i ++ x :: ys.drop i
  | [], i, hi, _, _ => by
    have : i = 0 := by simpa using hi
    subst this
    rfl
  | y :: ys, i, hi, h1, h2 => by
    unfold insY
    cases i with
    | zero =>
      rw [if_neg (h2 y rfl)]
      rfl
    | succ i =>
      rw [if_pos (h1 0 y (by omega) rfl), insY_at ys i (by simpa using hi) (fun j z hj hz => h1 (j + 1) z (by omega) (by simpa using hz)) (fun z hz => h2 z (by simpa using hz))]
      rfl
/-- a way begins -/
def begW (A : St) (kind c days : Nat) : St :=
  let B := setN (setY A (insY (kind, sN A 0 10, c, sN A 0 9 + days) (sY A))) 0 10 (sN A 0 10 + 1)
  if kind = 2 then setN B 0 11 (sN A 0 11 + 1) else B
/-- what lists must be for slips to hold them -/
def Wf (A : St) : Prop :=
  (∀ y ∈ sY A, y.1 < 16 ∧ y.2.1 < sN A 0 10 ∧ y.2.2.1 < 16 ∧ y.2.2.2 < 2 ^ 19) ∧ (sY A).Pairwise ltY ∧ (∀ w ∈ sW A, w.1 < 16 ∧ w.2.1 < 2 ^ 19 ∧ w.2.2 < 16) ∧ (∀ w ∈ sC A, w.1 < 16 ∧ w.2 < 2 ^ 19) ∧ (∀ q ∈ sQ A, q < 4) ∧ sN A 0 9 < 2 ^ 18 ∧ sN A 0 10 < 2 ^ 30
theorem okY {A : St} (h : Wf A) {y : Nat × Nat × Nat × Nat} (hy : y ∈ sY A) : okE y.2.2.2 y.2.1 y.1 y.2.2.1 := by
  obtain ⟨h1, h2, h3, h4⟩ := h.1 y hy
  have := h.2.2.2.2.2.2
  exact ⟨by omega, by omega, h1, h3⟩
theorem okW {A : St} (h : Wf A) {y : Nat × Nat × Nat} (hy : y ∈ sW A) : okE y.2.1 0 y.2.2 y.1 := by
  obtain ⟨h1, h2, h3⟩ := h.2.2.1 y hy
  exact ⟨by omega, by omega, h3, h1⟩
theorem okC {A : St} (h : Wf A) {y : Nat × Nat} (hy : y ∈ sC A) : okE y.2 0 0 y.1 := by
  obtain ⟨h1, h2⟩ := h.2.2.2.1 y hy
  exact ⟨by omega, by omega, by omega, h1⟩
theorem okQ {A : St} (h : Wf A) {q : Nat} (hy : q ∈ sQ A) : okE 0 0 0 q := by
  have h1 := h.2.2.2.2.1 q hy
  exact ⟨by omega, by omega, by omega, by omega⟩
section SL
variable {d n m p : Nat}
theorem s_day {Q : Int32 → Prop} (h : okE d n m p) (hQ : Q (nI d)) : wp_X5_day (enc d n m p) Q := by unfold wp_X5_day; rw [enc_day h]; exact hQ
theorem s_num {Q : Int32 → Prop} (h : okE d n m p) (hQ : Q (nI n)) : wp_X5_number (enc d n m p) Q := by unfold wp_X5_number; rw [enc_num h]; exact hQ
theorem s_mark {Q : Int32 → Prop} (h : okE d n m p) (hQ : Q (nI m)) : wp_X5_mark (enc d n m p) Q := by unfold wp_X5_mark; rw [enc_mark h]; exact hQ
theorem s_place {Q : Int32 → Prop} (h : okE d n m p) (hQ : Q (nI p)) : wp_X5_place (enc d n m p) Q := by unfold wp_X5_place; rw [enc_place h]; exact hQ
theorem s_of {Q : Int64 → Prop} (h : okE d n m p) (hQ : Q (enc d n m p)) : wp_X5_of (nI d) (nI n) (nI m) (nI p) Q := by unfold wp_X5_of; rw [enc_of h]; exact hQ
theorem s_part {c : Nat} {Q : Int32 → Prop} (hQ : Q (nI (c % 4))) : wp_X9_partOf (nI c) Q := by unfold wp_X9_partOf; rw [nI_m3]; exact hQ
theorem s_base {c : Nat} {Q : Int32 → Prop} (hc : c < 2 ^ 31) (hQ : Q (nI (c / 4))) : wp_X9_baseOf (nI c) Q := by
  unfold wp_X9_baseOf
  rw [show (4 : Int32) = nI 4 from rfl, pk_div hc (by decide) (by decide)]
  exact hQ
theorem s_placeOf {b q : Nat} {Q : Int32 → Prop} (hQ : Q (nI (4 * b + q))) : wp_X9_placeOf (nI b) (nI q) Q := by
  unfold wp_X9_placeOf
  rw [show (4 : Int32) = nI 4 from rfl, pk_mul, nI_add, Nat.mul_comm]
  exact hQ
end SL
theorem nd11 {c : Nat} (h : c < 16) : nd 11 c := Or.inr (Or.inr (Or.inr (Or.inl ⟨by omega, by omega, h⟩)))
theorem nd10 {c : Nat} (h : c < 16) : nd 10 c := Or.inr (Or.inr (Or.inr (Or.inl ⟨by omega, by omega, h⟩)))
theorem nd7 {c : Nat} (h : c < 16) : nd 7 c := Or.inr (Or.inr (Or.inr (Or.inl ⟨by omega, by omega, h⟩)))
theorem nd8 {c : Nat} (h : c < 16) : nd 8 c := Or.inr (Or.inr (Or.inr (Or.inl ⟨by omega, by omega, h⟩)))
theorem nd9 {c : Nat} (h : c < 16) : nd 9 c := Or.inr (Or.inr (Or.inr (Or.inl ⟨by omega, by omega, h⟩)))
theorem nd13 {c : Nat} (h : c < 4) : nd 13 c := Or.inr (Or.inr (Or.inr (Or.inr ⟨rfl, h⟩)))
theorem ndp {j c : Nat} (h1 : 2 ≤ j) (h2 : j ≤ 6) (h : c < 4) : nd j c := Or.inr (Or.inr (Or.inl ⟨h1, h2, h⟩))
theorem nd1 {c : Nat} (h : c < 5) : nd 1 c := Or.inr (Or.inl ⟨rfl, h⟩)
theorem nd0 {c : Nat} (h : 9 ≤ c) (h2 : c ≤ 11) : nd 0 c := Or.inl ⟨rfl, by omega⟩
theorem c_beginWay {o : Nat} {I : MI} {L : ML} {A : St} {kind c days : Nat} {Q : MI → ML → Prop} (h : CR o I L A) (hw : Wf A) (hk : kind < 16) (hc : c < 16) (hd : days < 2 ^ 18) (hl : (sY A).length < 184)
    (hQ : ∀ I' L', CR o I' L' (begW A kind c days) → Fr o I L I' L' → Q I' L') : wp_X2_beginWay o I L (nI kind) (nI c) (nI days) Q := by
  have hday := hw.2.2.2.2.2.1
  have hbeg := hw.2.2.2.2.2.2
  unfold wp_X2_beginWay wp_X5_of
  have e9 : I o 9 = nI (sN A 0 9) := h.n (j := 0) (i := 9) (Or.inl ⟨rfl, Or.inl rfl⟩)
  have e10 : I o 10 = nI (sN A 0 10) := h.n (j := 0) (i := 10) (Or.inl ⟨rfl, Or.inr (Or.inl rfl)⟩)
  have e11 : I o 11 = nI (sN A 0 11) := h.n (j := 0) (i := 11) (Or.inl ⟨rfl, Or.inr (Or.inr rfl)⟩)
  have hok : okE (sN A 0 9 + days) (sN A 0 10) kind c := ⟨by omega, by omega, hk, hc⟩
  rw [e9, e10, nI_add, enc_of hok]
  refine r_insert h.Y (by rw [List.length_map]; exact hl) (fun i I1 L1 hi hlo hhi eI hL hr => ?_)
  rw [List.length_map] at hi
  have hins : (sY A).take i ++ (kind, sN A 0 10, c, sN A 0 9 + days) :: (sY A).drop i = insY (kind, sN A 0 10, c, sN A 0 9 + days) (sY A) := by
    refine (insY_at _ i hi (fun j y hj hy => ?_) (fun y hy => ?_)).symm
    · have hj1 : i - 1 < (sY A).length := by omega
      have hz : (sY A)[i - 1]? = some (sY A)[i - 1] := List.getElem?_eq_getElem hj1
      have hm : (sY A)[i - 1] ∈ sY A := List.getElem_mem hj1
      have h1 := hlo (encY (sY A)[i - 1]) (by omega) (by rw [List.getElem?_map, hz]; rfl)
      have h2 := (enc_le (okY hw hm) hok).mp h1
      obtain ⟨q1, q2, q3, q4⟩ := okY hw hm
      have h3 : (sY A)[i - 1].2.2.2 ≤ sN A 0 9 + days := by omega
      by_cases hji : j = i - 1
      · subst hji
        rw [hz] at hy
        cases hy
        exact h3
      · have hjl : j < (sY A).length := by omega
        have hp := List.pairwise_iff_getElem.mp hw.2.1 j (i - 1) hjl hj1 (by omega)
        rw [List.getElem?_eq_getElem hjl] at hy
        cases hy
        show (sY A)[j].2.2.2 ≤ sN A 0 9 + days
        rcases hp with hp | hp
        · omega
        · omega
    · have hil : i < (sY A).length := lt_of_get hy
      have hm : y ∈ sY A := List.mem_of_getElem? hy
      have h1 := hhi i (encY y) (Nat.le_refl _) (by rw [List.getElem?_map, hy]; rfl)
      intro hle
      apply h1
      refine (enc_le (okY hw hm) hok).mpr ?_
      obtain ⟨q1, q2, q3, q4⟩ := okY hw hm
      have q5 := (hw.1 y hm).2.1
      have hle : y.2.2.2 ≤ sN A 0 9 + days := hle
      omega
  have hr2 : rowIs I1 L1 (o + 14) 184 ((insY (kind, sN A 0 10, c, sN A 0 9 + days) (sY A)).map encY) := by
    rw [← hins, List.map_append, List.map_cons, List.map_take, List.map_drop]
    exact hr
  have h1 := h.putY eI hL hr2
  have f1 : Fr o I L I1 L1 := Fr.row (j := 14) (by omega) eI hL
  intro I4 e4
  have g10 : I1 o 10 = nI (sN A 0 10) := h1.n (j := 0) (i := 10) (Or.inl ⟨rfl, Or.inr (Or.inl rfl)⟩)
  rw [g10, nI_1] at e4
  have h2 := h1.putN (j := 0) (i := 10) (Or.inl ⟨rfl, Or.inr (Or.inl rfl)⟩) e4
  have f2 : Fr o I L I4 L1 := f1.tr (Fr.uI (j := 0) e4 (by omega))
  have hk2 : nI kind = 2 ↔ kind = 2 := nI_eq (b := 2) (by omega) (by omega)
  refine ⟨fun hne => ?_, fun he I6 e6 => ?_⟩
  · refine hQ I4 L1 ?_ f2
    unfold begW
    rw [if_neg (fun q => hne (hk2.mpr q))]
    exact h2
  · have g11 : I4 o 11 = nI (sN A 0 11) := h2.n (j := 0) (i := 11) (Or.inl ⟨rfl, Or.inr (Or.inr rfl)⟩)
    rw [g11, nI_1] at e6
    refine hQ I6 L1 ?_ (f2.tr (Fr.uI (j := 0) e6 (by omega)))
    unfold begW
    rw [if_pos (hk2.mp he)]
    exact h2.putN (j := 0) (i := 11) (Or.inl ⟨rfl, Or.inr (Or.inr rfl)⟩) e6
