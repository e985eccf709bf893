/-! a text: what it tells, as a function of its bytes t (t k the k-th, n of them) -/
def isG (t : Nat → Nat) (n k : Nat) : Bool := decide (k < n ∧ (t k = 32 ∨ t k = 10))
def isL (t : Nat → Nat) (n k : Nat) : Bool := decide (k < n ∧ 97 ≤ t k ∧ t k ≤ 122)
def isD (t : Nat → Nat) (n k : Nat) : Bool := decide (k < n ∧ 48 ≤ t k ∧ t k ≤ 57)
def adv (P : Nat → Bool) : Nat → Nat → Nat
  | 0, i => i
  | f + 1, i => if P i then adv P f (i + 1) else i
def sk (P : Nat → Bool) (n i : Nat) : Nat := adv P (n - i) i
theorem sk_yes {P : Nat → Bool} {n i : Nat} (h : P i = true) (hi : i < n) : sk P n i = sk P n (i + 1) := by
  unfold sk
  rw [show n - i = (n - (i + 1)) + 1 by omega]
  show (if P i then adv P (n - (i + 1)) (i + 1) else i) = _
  rw [if_pos h]
theorem sk_no {P : Nat → Bool} {n i : Nat} (h : P i = false) : sk P n i = i := by
  unfold sk
  cases hf : n - i with
  | zero => rfl
  | succ f =>
    show (if P i then adv P f (i + 1) else i) = _
    rw [h]
    rfl
theorem adv_fact {P : Nat → Bool} {n : Nat} (hP : ∀ k, P k = true → k < n) : ∀ (m i : Nat), i + m = n → i ≤ sk P n i ∧ sk P n i ≤ n ∧ P (sk P n i) = false ∧ ∀ k, i ≤ k → k < sk P n i → P k = true := by
  intro m
  induction m with
  | zero =>
    intro i hi
    have hf : P i = false := by
      rcases Bool.eq_false_or_eq_true (P i) with q | q
      · have := hP i q; omega
      · exact q
    rw [sk_no hf]
    exact ⟨Nat.le_refl _, by omega, hf, fun k h1 h2 => absurd h1 (by omega)⟩
  | succ m ih =>
    intro i hi
    rcases Bool.eq_false_or_eq_true (P i) with q | q
    · rw [sk_yes q (by omega)]
      obtain ⟨a, b, c, d⟩ := ih (i + 1) (by omega)
      refine ⟨by omega, b, c, fun k h1 h2 => ?_⟩
      by_cases hk : k = i
      · rw [hk]; exact q
      · exact d k (by omega) h2
    · rw [sk_no q]
      exact ⟨Nat.le_refl _, by omega, q, fun k h1 h2 => absurd h1 (by omega)⟩
theorem isG_lt {t : Nat → Nat} {n k : Nat} (h : isG t n k = true) : k < n := (of_decide_eq_true h).1
theorem isL_lt {t : Nat → Nat} {n k : Nat} (h : isL t n k = true) : k < n := (of_decide_eq_true h).1
theorem isD_lt {t : Nat → Nat} {n k : Nat} (h : isD t n k = true) : k < n := (of_decide_eq_true h).1
abbrev skG (t : Nat → Nat) (n i : Nat) : Nat := sk (isG t n) n i
abbrev skL (t : Nat → Nat) (n i : Nat) : Nat := sk (isL t n) n i
abbrev skD (t : Nat → Nat) (n i : Nat) : Nat := sk (isD t n) n i
theorem skG_f {t : Nat → Nat} {n i : Nat} (h : i ≤ n) : i ≤ skG t n i ∧ skG t n i ≤ n ∧ isG t n (skG t n i) = false ∧ ∀ k, i ≤ k → k < skG t n i → isG t n k = true := adv_fact (fun _ => isG_lt) (n - i) i (by omega)
theorem skL_f {t : Nat → Nat} {n i : Nat} (h : i ≤ n) : i ≤ skL t n i ∧ skL t n i ≤ n ∧ isL t n (skL t n i) = false ∧ ∀ k, i ≤ k → k < skL t n i → isL t n k = true := adv_fact (fun _ => isL_lt) (n - i) i (by omega)
theorem skD_f {t : Nat → Nat} {n i : Nat} (h : i ≤ n) : i ≤ skD t n i ∧ skD t n i ≤ n ∧ isD t n (skD t n i) = false ∧ ∀ k, i ≤ k → k < skD t n i → isD t n k = true := adv_fact (fun _ => isD_lt) (n - i) i (by omega)
/-- what one or two digits tell -/
def dv (t : Nat → Nat) (s e : Nat) : Nat := if e = s + 1 then t s - 48 else 10 * (t s - 48) + (t (s + 1) - 48)
/-- a number within its bounds stands behind i -/
def okN (t : Nat → Nat) (n i : Nat) (b : Nat × Nat) : Bool := decide (skG t n i ≠ i ∧ isD t n (skG t n i) = true ∧ skD t n (skG t n i) ≤ skG t n i + 2 ∧ b.1 ≤ dv t (skG t n i) (skD t n (skG t n i)) ∧ dv t (skG t n i) (skD t n (skG t n i)) < b.2)
def wordN : List (List Nat) := [[98, 101, 110, 99, 104, 101, 115], [107, 101, 101, 112], [114, 117, 108, 101], [112, 97, 114, 116], [98, 97, 115, 101], [99, 101, 108, 108], [119, 111, 114, 107, 115]]
def wl (w : Nat) : List Nat := wordN.getD w []
def isW (t : Nat → Nat) (s e w : Nat) : Bool := decide (e = s + (wl w).length ∧ ∀ k, k < (wl w).length → t (s + k) = (wl w).getD k 0)
def wdF (t : Nat → Nat) (s e : Nat) : Nat → Nat → Option Nat
  | 0, _ => none
  | f + 1, w => if isW t s e w then some w else wdF t s e f (w + 1)
def numN (w : Nat) : Nat := [1, 1, 1, 3, 1, 5, 2].getD w 0
def fstN (w : Nat) : Nat := [0, 1, 2, 3, 6, 7, 12].getD w 0
def lowN (p : Nat) : Nat := [1, 0, 0, 1, 0, 1, 1, 0, 0, 0, 0, 0, 0, 0].getD p 0
def hghN (p : Nat) : Nat := [4, 5, 2, 31, 10, 10, 10, 0, 0, 9, 13, 10, 0, 10].getD p 0
/-- the bounds of the p-th of all numbers: from, up to -/
def bd (B : St) (p : Nat) : Nat × Nat := (lowN p, if p = 7 then sN B 1 1 else if p = 8 ∨ p = 12 then sN B 1 0 else hghN p)
def pNums (t : Nat → Nat) (n : Nat) (B : St) : Nat → Nat → Nat → List Nat → Sum Nat (List Nat × Nat)
  | 0, _, i, acc => .inr (acc, i)
  | c + 1, p, i, acc => if okN t n i (bd B p) then pNums t n B c (p + 1) (skD t n (skG t n i)) (acc ++ [dv t (skG t n i) (skD t n (skG t n i))]) else .inl (skG t n i)
def takeW (B : St) (w : Nat) (v : List Nat) : St :=
  if w = 0 then setN B 1 2 (v.getD 0 0) else if w = 1 then setN B 1 3 (v.getD 0 0) else if w = 2 then setN B 1 4 (v.getD 0 0)
  else if w = 3 then setN (setN (setN (setN B 2 (sN B 1 0) (v.getD 0 0)) 3 (sN B 1 0) (v.getD 1 0)) 4 (sN B 1 0) (v.getD 2 0)) 1 0 (sN B 1 0 + 1)
  else if w = 4 then setN (setN B 6 (sN B 1 1) (v.getD 0 0)) 1 1 (sN B 1 1 + 1)
  else if w = 5 then setN (setN (setN B 7 (4 * v.getD 0 0 + v.getD 1 0) (v.getD 2 0)) 8 (4 * v.getD 0 0 + v.getD 1 0) (v.getD 3 0)) 9 (4 * v.getD 0 0 + v.getD 1 0) (v.getD 4 0)
  else setN B 5 (v.getD 0 0) (v.getD 1 0)
def many (B : St) (w : Nat) : Bool := decide ((w = 3 ∧ 3 ≤ sN B 1 0) ∨ (w = 4 ∧ 3 ≤ sN B 1 1))
def isS (t : Nat → Nat) (n k : Nat) : Bool := decide (k < n ∧ t k = 59)
def pLine (t : Nat → Nat) (n : Nat) (B : St) (s : Nat) : Sum Nat (St × Nat) := match wdF t s (skL t n s) 7 0 with
  | none => .inl s
  | some w => if many B w then .inl s else match pNums t n B (numN w) (fstN w) (skL t n s) [] with
    | .inl f => .inl f
    | .inr r => if isS t n (skG t n r.2) then .inr (takeW B w r.1, skG t n r.2 + 1) else .inl (skG t n r.2)
def pAll (t : Nat → Nat) (n : Nat) : Nat → St → Nat → Sum Nat St
  | 0, B, _ => .inr B
  | f + 1, B, i => if skG t n i = n then .inr B else match pLine t n B (skG t n i) with
    | .inl q => .inl q
    | .inr r => pAll t n f r.1 r.2
theorem wdF_lt {t : Nat → Nat} {s e : Nat} : ∀ (f w v : Nat), wdF t s e f w = some v → w ≤ v ∧ v < w + f ∧ isW t s e v = true
  | 0, w, v, h => by cases h
  | f + 1, w, v, h => by
    unfold wdF at h
    cases hw : isW t s e w with
    | true =>
      rw [hw] at h
      simp only [if_true] at h
      cases h
      exact ⟨Nat.le_refl _, by omega, hw⟩
    | false =>
      rw [hw] at h
      simp only [Bool.false_eq_true, if_false] at h
      obtain ⟨a, b, c⟩ := wdF_lt f (w + 1) v h
      exact ⟨by omega, by omega, c⟩
theorem pNums_len {t : Nat → Nat} {n : Nat} {B : St} : ∀ (c p i : Nat) (acc : List Nat) (r : List Nat × Nat), i ≤ n → pNums t n B c p i acc = .inr r → r.1.length = acc.length + c ∧ i ≤ r.2 ∧ r.2 ≤ n ∧ (∀ q, q < acc.length → r.1.getD q 0 = acc.getD q 0) ∧ ∀ q, q < c → (bd B (p + q)).1 ≤ r.1.getD (acc.length + q) 0 ∧ r.1.getD (acc.length + q) 0 < (bd B (p + q)).2
  | 0, p, i, acc, r, hi, h => by
    cases h
    exact ⟨rfl, Nat.le_refl _, hi, fun _ _ => rfl, fun q hq => absurd hq (by omega)⟩
  | c + 1, p, i, acc, r, hi, h => by
    unfold pNums at h
    cases ho : okN t n i (bd B p) with
    | false =>
      rw [ho] at h
      simp only [Bool.false_eq_true, if_false] at h
      cases h
    | true =>
      rw [ho] at h
      simp only [if_true] at h
      have g := skG_f (t := t) hi
      have d := skD_f (t := t) g.2.1
      obtain ⟨a1, a2, a3, a4, a5⟩ := pNums_len c (p + 1) _ _ r d.2.1 h
      rw [List.length_append, List.length_singleton] at a1 a4 a5
      have o := of_decide_eq_true ho
      have eg : r.1.getD acc.length 0 = dv t (skG t n i) (skD t n (skG t n i)) := by
        rw [a4 acc.length (by omega)]
        simp [List.getD]
      refine ⟨by omega, by omega, a3, fun q hq => ?_, fun q hq => ?_⟩
      · rw [a4 q (by omega)]
        simp only [List.getD]
        rw [List.getElem?_append_left hq]
      · cases q with
        | zero =>
          rw [Nat.add_zero, Nat.add_zero, eg]
          exact ⟨o.2.2.2.1, o.2.2.2.2⟩
        | succ q =>
          have := a5 q (by omega)
          rw [show p + (q + 1) = p + 1 + q by omega, show acc.length + (q + 1) = acc.length + 1 + q by omega]
          exact this
theorem pLine_adv {t : Nat → Nat} {n : Nat} {B : St} {s : Nat} {r : St × Nat} (hs : s ≤ n) (h : pLine t n B s = .inr r) : s < r.2 ∧ r.2 ≤ n := by
  unfold pLine at h
  cases hw : wdF t s (skL t n s) 7 0 with
  | none => rw [hw] at h; cases h
  | some w =>
    rw [hw] at h
    simp only at h
    cases hm : many B w with
    | true => rw [hm] at h; simp only [if_true] at h; cases h
    | false =>
      rw [hm] at h
      simp only [Bool.false_eq_true, if_false] at h
      cases hp : pNums t n B (numN w) (fstN w) (skL t n s) [] with
      | inl f => rw [hp] at h; cases h
      | inr q =>
        rw [hp] at h
        simp only at h
        have l := skL_f (t := t) hs
        obtain ⟨a1, a2, a3, _⟩ := pNums_len _ _ _ _ q l.2.1 hp
        have g := skG_f (t := t) a3
        cases hz : isS t n (skG t n q.2) with
        | false => rw [hz] at h; simp only [Bool.false_eq_true, if_false] at h; cases h
        | true =>
          rw [hz] at h
          simp only [if_true] at h
          cases h
          have := (of_decide_eq_true hz).1
          exact ⟨by show s < skG t n q.2 + 1; omega, by show skG t n q.2 + 1 ≤ n; omega⟩
