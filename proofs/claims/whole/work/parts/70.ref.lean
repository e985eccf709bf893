/-! the reference's row of numbers -/
def iv (s : Nat) : Nat × Nat :=
  if s < 5 then (1, s) else if s = 5 then (0, 9) else if s < 13 then (0, s + 6) else if s = 13 then (0, 10) else if s < 20 then (99, s) else if s < 23 then (2, s - 20) else if s < 26 then (3, s - 23) else if s < 29 then (4, s - 26) else if s < 32 then (6, s - 29) else if s < 41 then (7, 4 * ((s - 32) / 3) + (s - 32) % 3) else if s < 50 then (8, 4 * ((s - 41) / 3) + (s - 41) % 3) else if s < 59 then (9, 4 * ((s - 50) / 3) + (s - 50) % 3) else if s < 62 then (5, s - 59) else if s < 71 then (10, 4 * ((s - 62) / 3) + (s - 62) % 3) else if s < 74 then (13, s - 71) else if s < 83 then (11, 4 * ((s - 74) / 3) + (s - 74) % 3) else (12, 4 * ((s - 83) / 3) + (s - 83) % 3)
def isT (s : Nat) : Bool := decide ((6 ≤ s ∧ s < 13) ∨ 83 ≤ s)
def ri (j i : Nat) : Nat := match j with
  | 0 => if i = 9 then 5 else 13
  | 1 => i
  | 2 => 20 + i
  | 3 => 23 + i
  | 4 => 26 + i
  | 5 => 59 + i
  | 6 => 29 + i
  | 7 => 32 + (3 * (i / 4) + i % 4)
  | 8 => 41 + (3 * (i / 4) + i % 4)
  | 9 => 50 + (3 * (i / 4) + i % 4)
  | 10 => 62 + (3 * (i / 4) + i % 4)
  | 11 => 74 + (3 * (i / 4) + i % 4)
  | 13 => 71 + i
  | _ => 18
def rd (j i : Nat) : Bool := decide ((j = 0 ∧ (i = 9 ∨ i = 10)) ∨ (j = 1 ∧ i < 5) ∨ (2 ≤ j ∧ j ≤ 6 ∧ i < 3) ∨ (j = 13 ∧ i < 3) ∨ (7 ≤ j ∧ j ≤ 11 ∧ i / 4 < 3 ∧ i % 4 < 3))
def ti (j i : Nat) : Nat := if j = 0 then i - 6 else 83 + (3 * (i / 4) + i % 4)
def td (j i : Nat) : Bool := decide ((j = 0 ∧ 12 ≤ i ∧ i ≤ 18) ∨ (j = 12 ∧ i / 4 < 3 ∧ i % 4 < 3))
theorem ivA : ∀ j, j < 14 → ∀ i, i < 16 → rd j i = true → iv (ri j i) = (j, i) ∧ isT (ri j i) = false ∧ ri j i < 92 ∧ (ri j i < 14 ∨ 20 ≤ ri j i) := by decide +kernel
theorem ivB : ∀ s, s < 92 → (s < 14 ∨ 20 ≤ s) → isT s = false → ri (iv s).1 (iv s).2 = s := by decide +kernel
theorem ivC : ∀ j, j < 14 → ∀ i, i < 19 → td j i = true → iv (ti j i) = (j, i) ∧ isT (ti j i) = true ∧ ti j i < 92 ∧ (ti j i < 14 ∨ 20 ≤ ti j i) := by decide +kernel
theorem ivD : ∀ s, s < 92 → (s < 14 ∨ 20 ≤ s) → isT s = true → ti (iv s).1 (iv s).2 = s := by decide +kernel
theorem rd_lt {j i : Nat} (h : rd j i = true) : j < 14 ∧ i < 16 := by
  unfold rd at h
  have := of_decide_eq_true h
  omega
theorem td_lt {j i : Nat} (h : td j i = true) : j < 14 ∧ i < 19 := by
  unfold td at h
  have := of_decide_eq_true h
  omega
def val (A : St) (s : Nat) : Int32 := if isT s then sT A (iv s).1 (iv s).2 else nI (sN A (iv s).1 (iv s).2)
def RN (f : Nat → Int32) (A : St) : Prop := ∀ s, s < 92 → (s < 14 ∨ 20 ≤ s) → f s = val A s
theorem RN.n {f : Nat → Int32} {A : St} (h : RN f A) {j i : Nat} (hd : rd j i = true) : f (ri j i) = nI (sN A j i) := by
  have hl := rd_lt hd
  obtain ⟨h1, h2, h3, h4⟩ := ivA j hl.1 i hl.2 hd
  rw [h _ h3 h4]
  unfold val
  rw [h2, h1]
  rfl
theorem RN.t {f : Nat → Int32} {A : St} (h : RN f A) {j i : Nat} (hd : td j i = true) : f (ti j i) = sT A j i := by
  have hl := td_lt hd
  obtain ⟨h1, h2, h3, h4⟩ := ivC j hl.1 i hl.2 hd
  rw [h _ h3 h4]
  unfold val
  rw [h2, h1]
  rfl
theorem RN.putN {I I' : MI} {A : St} (h : RN (I 337) A) {j i v : Nat} (hd : rd j i = true) (e : I' = u2 I 337 (ri j i) (nI v)) : RN (I' 337) (setN A j i v) := by
  have hl := rd_lt hd
  obtain ⟨h1, h2, h3, h4⟩ := ivA j hl.1 i hl.2 hd
  intro s hs hs2
  rw [e, u2_at]
  by_cases hc : s = ri j i
  · rw [if_pos ⟨rfl, hc⟩, hc]
    unfold val
    rw [h2, h1]
    show nI v = nI (u2 A.1 j i v j i)
    rw [u2_s]
  · rw [if_neg (fun z => hc z.2), h s hs hs2]
    unfold val
    cases ht : isT s with
    | true => rfl
    | false =>
      show nI (A.1 _ _) = nI (u2 A.1 j i v _ _)
      rw [u2_at, if_neg]
      rintro ⟨q1, q2⟩
      exact hc (by rw [← ivB s hs hs2 ht, q1, q2])
theorem RN.putT {I I' : MI} {A : St} (h : RN (I 337) A) {j i : Nat} {v : Int32} (hd : td j i = true) (e : I' = u2 I 337 (ti j i) v) : RN (I' 337) (setT A j i v) := by
  have hl := td_lt hd
  obtain ⟨h1, h2, h3, h4⟩ := ivC j hl.1 i hl.2 hd
  intro s hs hs2
  rw [e, u2_at]
  by_cases hc : s = ti j i
  · rw [if_pos ⟨rfl, hc⟩, hc]
    unfold val
    rw [h2, h1]
    show v = u2 A.2.1 j i v j i
    rw [u2_s]
  · rw [if_neg (fun z => hc z.2), h s hs hs2]
    unfold val
    cases ht : isT s with
    | false => rfl
    | true =>
      show A.2.1 _ _ = u2 A.2.1 j i v _ _
      rw [u2_at, if_neg]
      rintro ⟨q1, q2⟩
      exact hc (by rw [← ivD s hs hs2 ht, q1, q2])
-- rows within the row
def lst {α : Type} (f : Nat → Int32) (base wide : Nat) (xs : List α) (g : α → Nat → Int32) : Prop := ∀ (k : Nat) (x : α), xs[k]? = some x → ∀ q, q < wide → f (base + wide * k + q) = g x q
theorem lst.fr {α : Type} {f f' : Nat → Int32} {base wide : Nat} {xs : List α} {g : α → Nat → Int32} (h : lst f base wide xs g) (hf : ∀ s, base ≤ s → s < base + wide * xs.length → f' s = f s) : lst f' base wide xs g := by
  intro k x hx q hq
  have hk := lt_of_get hx
  have : wide * k + wide ≤ wide * xs.length := by
    rw [← Nat.mul_succ]
    exact Nat.mul_le_mul_left _ hk
  rw [hf _ (by omega) (by omega)]
  exact h k x hx q hq
/-- one more at the end -/
theorem lst.app {α : Type} {f f' : Nat → Int32} {base wide : Nat} {xs : List α} {x : α} {g : α → Nat → Int32} (h : lst f base wide xs g) (hf : ∀ s, base ≤ s → s < base + wide * xs.length → f' s = f s) (hx : ∀ q, q < wide → f' (base + wide * xs.length + q) = g x q) : lst f' base wide (xs ++ [x]) g := by
  intro k y hy q hq
  by_cases hk : k < xs.length
  · rw [List.getElem?_append_left hk] at hy
    exact h.fr hf k y hy q hq
  · have hk2 := lt_of_get hy
    rw [List.length_append, List.length_singleton] at hk2
    have : k = xs.length := by omega
    subst this
    rw [List.getElem?_append_right (Nat.le_refl _), Nat.sub_self] at hy
    cases hy
    exact hx q hq
theorem r_closes {α : Type} {I : MI} {base wide k : Nat} {xs : List α} {g : α → Nat → Int32} {Q : MI → Prop} (h : lst (I 337) base wide xs g) (hk : k < xs.length) (hb : base + wide * xs.length ≤ 2212) (hQ : ∀ I', lst (I' 337) base wide (xs.eraseIdx k) g → (∀ s, (s < base ∨ base + wide * xs.length ≤ s) → I' 337 s = I 337 s) → (∀ a, a ≠ 337 → I' a = I a) → Q I') : wp_X10_closes I (nI base) (nI wide) (nI k) (nI xs.length) Q := by
  obtain ⟨m, hm⟩ : ∃ m, xs.length = m + 1 := ⟨xs.length - 1, by omega⟩
  have hkm : wide * k ≤ wide * m := Nat.mul_le_mul_left _ (by omega)
  have hmm : wide * xs.length = wide * m + wide := by rw [hm, Nat.mul_succ]
  have hlim : nI base + nI wide * (nI xs.length - 1) = nI (base + wide * m) := by
    rw [hm, nI_pred, pk_mul, nI_add]
  have key : ∀ (n i : Nat) (J : MI), i + n = base + wide * m → base + wide * k ≤ i → (∀ s, s < i → base + wide * k ≤ s → J 337 s = I 337 (s + wide)) → (∀ s, (s < base + wide * k ∨ i ≤ s) → J 337 s = I 337 s) → (∀ a, a ≠ 337 → J a = I a) → lp_X10_closes_7 (nI base) (nI wide) (nI xs.length) Q (n + 1) (nI i) J := by
    intro n
    induction n with
    | zero =>
      intro i J hi h0 h1 h2 h3
      unfold lp_X10_closes_7
      rw [hlim]
      refine ⟨fun _ => hQ J ?_ (fun s hs => h2 s (by omega)) h3, fun z => absurd (nI_le (by omega) (by omega)) z⟩
      intro j x hx q hq
      rw [List.getElem?_eraseIdx] at hx
      by_cases hj : j < k
      · rw [if_pos hj] at hx
        have : wide * j + wide ≤ wide * k := by
          rw [← Nat.mul_succ]
          exact Nat.mul_le_mul_left _ hj
        rw [h2 _ (Or.inl (by omega))]
        exact h j x hx q hq
      · rw [if_neg hj] at hx
        have hj2 := lt_of_get hx
        have a1 : wide * k ≤ wide * j := Nat.mul_le_mul_left _ (by omega)
        have a2 : wide * j + wide ≤ wide * m := by
          rw [← Nat.mul_succ]
          exact Nat.mul_le_mul_left _ (by omega)
        rw [h1 _ (by omega) (by omega)]
        have := h (j + 1) x hx q hq
        rw [Nat.mul_succ] at this
        rw [← this]
        congr 1
        omega
    | succ n ih =>
      intro i J hi h0 h1 h2 h3
      unfold lp_X10_closes_7
      rw [hlim]
      refine ⟨fun z => absurd z (nI_ge (by omega) (by omega)), fun _ => ?_⟩
      rw [nI_add, ix_nI (by omega), ix_nI (by omega), nI_1]
      refine ⟨vp_in_nI (by omega) (by omega), vp_in_nI (by omega) (by omega), fun J2 e => ?_⟩
      refine ih (i + 1) J2 (by omega) (by omega) (fun s hs hs2 => ?_) (fun s hs => ?_) (fun a ha => by rw [e, u2_ne ha]; exact h3 a ha)
      · rw [e, u2_at]
        by_cases hsi : s = i
        · rw [if_pos ⟨rfl, hsi⟩, hsi, h2 _ ?_]
          by_cases hw : wide = 0
          · subst hw
            exact Or.inr (by omega)
          · exact Or.inr (by omega)
        · rw [if_neg (fun z => hsi z.2)]
          exact h1 s (by omega) hs2
      · rw [e, u2_at, if_neg (by omega)]
        exact h2 s (by omega)
  unfold wp_X10_closes
  refine ⟨wide * m - wide * k + 1, ?_⟩
  rw [pk_mul, nI_add]
  exact key (wide * m - wide * k) (base + wide * k) I (by omega) (Nat.le_refl _) (fun s h1 h2 => absurd h1 (by omega)) (fun _ _ => rfl) (fun _ _ => rfl)
def gW (w : Nat × Nat × Nat) (q : Nat) : Int32 := if q = 0 then nI (w.1 / 4) else if q = 1 then nI (w.1 % 4) else if q = 2 then nI w.2.1 else nI w.2.2
def gC (w : Nat × Nat) (q : Nat) : Int32 := if q = 0 then nI (w.1 / 4) else if q = 1 then nI (w.1 % 4) else nI w.2
def gY (y : Nat × Nat × Nat × Nat) (q : Nat) : Int32 := if q = 0 then nI y.1 else if q = 1 then nI y.2.1 else if q = 2 then nI (y.2.2.1 % 4) else if q = 3 then (if y.1 = 2 then -2 else nI (y.2.2.1 / 4)) else nI y.2.2.2
def gQ (p : Nat) (_ : Nat) : Int32 := nI p
/-- the reference's row holds the state A; its ways stand as Y -/
def RR (I : MI) (A : St) (Y : List (Nat × Nat × Nat × Nat)) : Prop :=
  RN (I 337) A ∧ (I 337 14 = nI (sW A).length ∧ I 337 15 = nI (sC A).length ∧ I 337 16 = nI Y.length ∧ I 337 17 = nI (sQ A).length) ∧
  lst (I 337) 92 4 (sW A) gW ∧ lst (I 337) 412 3 (sC A) gC ∧ lst (I 337) 1012 5 Y gY ∧ lst (I 337) 2012 1 (sQ A) gQ ∧ Y.Perm (sY A) ∧ (sW A).length ≤ 72 ∧ (sC A).length ≤ 190 ∧ Y.length ≤ 190 ∧ (sQ A).length ≤ 190
/-- the reference changes its row alone -/
def RF (I I' : MI) : Prop := ∀ k, k ≠ 337 → I' k = I k
theorem RF.rf {I : MI} : RF I I := fun _ _ => rfl
theorem RF.tr {I J K : MI} (h : RF I J) (h2 : RF J K) : RF I K := fun k hk => (h2 k hk).trans (h k hk)
theorem RF.u {I I' : MI} {s : Nat} {v : Int32} (e : I' = u2 I 337 s v) : RF I I' := fun k hk => by rw [e, u2_ne hk]
section RRS
variable {I I' : MI} {A : St} {Y : List (Nat × Nat × Nat × Nat)}
theorem RR.n (h : RR I A Y) {j i : Nat} (hd : rd j i = true) : I 337 (ri j i) = nI (sN A j i) := h.1.n hd
theorem RR.t (h : RR I A Y) {j i : Nat} (hd : td j i = true) : I 337 (ti j i) = sT A j i := h.1.t hd
theorem RR.putN (h : RR I A Y) {j i v : Nat} (hd : rd j i = true) (e : I' = u2 I 337 (ri j i) (nI v)) : RR I' (setN A j i v) Y := by
  have hl := rd_lt hd
  obtain ⟨h1, h2, h3, h4⟩ := ivA j hl.1 i hl.2 hd
  obtain ⟨a1, ⟨a2, a3, a4, a5⟩, a6, a7, a8, a9, a10, a11, a12, a13, a14⟩ := h
  have out : ∀ s, s ≠ ri j i → I' 337 s = I 337 s := fun s hs => by rw [e, u2_n2 hs]
  exact ⟨a1.putN hd e, ⟨by rw [out _ (by omega)]; exact a2, by rw [out _ (by omega)]; exact a3, by rw [out _ (by omega)]; exact a4, by rw [out _ (by omega)]; exact a5⟩, a6.fr (fun s _ _ => out s (by omega)), a7.fr (fun s _ _ => out s (by omega)), a8.fr (fun s _ _ => out s (by omega)), a9.fr (fun s _ _ => out s (by omega)), a10, a11, a12, a13, a14⟩
theorem RR.putT (h : RR I A Y) {j i : Nat} {v : Int32} (hd : td j i = true) (e : I' = u2 I 337 (ti j i) v) : RR I' (setT A j i v) Y := by
  have hl := td_lt hd
  obtain ⟨h1, h2, h3, h4⟩ := ivC j hl.1 i hl.2 hd
  obtain ⟨a1, ⟨a2, a3, a4, a5⟩, a6, a7, a8, a9, a10, a11, a12, a13, a14⟩ := h
  have out : ∀ s, s ≠ ti j i → I' 337 s = I 337 s := fun s hs => by rw [e, u2_n2 hs]
  exact ⟨a1.putT hd e, ⟨by rw [out _ (by omega)]; exact a2, by rw [out _ (by omega)]; exact a3, by rw [out _ (by omega)]; exact a4, by rw [out _ (by omega)]; exact a5⟩, a6.fr (fun s _ _ => out s (by omega)), a7.fr (fun s _ _ => out s (by omega)), a8.fr (fun s _ _ => out s (by omega)), a9.fr (fun s _ _ => out s (by omega)), a10, a11, a12, a13, a14⟩
theorem RN.of {f f' : Nat → Int32} {A : St} (h : RN f A) (hf : ∀ s, s < 92 → (s < 14 ∨ 20 ≤ s) → f' s = f s) : RN f' A := fun s h1 h2 => (hf s h1 h2).trans (h s h1 h2)
/-- what the reference doesn't hold may change -/
theorem RR.any {B : St} (h : RR I A Y) (hN : ∀ j i, rd j i = true → sN B j i = sN A j i) (hT : sT B = sT A) (hW : sW B = sW A) (hC : sC B = sC A) (hY : sY B = sY A) (hQ : sQ B = sQ A) : RR I B Y := by
  obtain ⟨a1, a2, a6, a7, a8, a9, a10, a11, a12, a13, a14⟩ := h
  refine ⟨fun s h1 h2 => ?_, ?_, ?_, ?_, a8, ?_, ?_, ?_, ?_, a13, ?_⟩
  · rw [a1 s h1 h2]
    unfold val
    rw [hT]
    cases ht : isT s with
    | true => rfl
    | false =>
      show nI _ = nI _
      rw [hN]
      have : ∀ s, s < 92 → (s < 14 ∨ 20 ≤ s) → isT s = false → rd (iv s).1 (iv s).2 = true := by decide +kernel
      exact this s h1 h2 ht
  · rw [hW, hC, hQ]; exact a2
  · rw [hW]; exact a6
  · rw [hC]; exact a7
  · rw [hQ]; exact a9
  · rw [hY]; exact a10
  · rw [hW]; exact a11
  · rw [hC]; exact a12
  · rw [hQ]; exact a14
theorem RR.skip11 (h : RR I A Y) {v : Nat} : RR I (setN A 0 11 v) Y := by
  refine h.any (fun j i hd => ?_) rfl rfl rfl rfl rfl
  show u2 A.1 0 11 v j i = A.1 j i
  rw [u2_at, if_neg]
  rintro ⟨rfl, rfl⟩
  exact absurd hd (by decide)
/-- the wants become others: their places in the row and their number -/
theorem RR.putW (h : RR I A Y) {ws : List (Nat × Nat × Nat)} (hf : ∀ s, (s < 92 ∨ 412 ≤ s) → s ≠ 14 → I' 337 s = I 337 s) (hc : I' 337 14 = nI ws.length) (hl : lst (I' 337) 92 4 ws gW) (hn : ws.length ≤ 72) : RR I' (setW A ws) Y := by
  obtain ⟨a1, ⟨a2, a3, a4, a5⟩, a6, a7, a8, a9, a10, a11, a12, a13, a14⟩ := h
  exact ⟨a1.of (fun s h1 h2 => hf s (by omega) (by omega)), ⟨hc, by rw [hf _ (by omega) (by omega)]; exact a3, by rw [hf _ (by omega) (by omega)]; exact a4, by rw [hf _ (by omega) (by omega)]; exact a5⟩, hl, a7.fr (fun s _ _ => hf s (by omega) (by omega)), a8.fr (fun s _ _ => hf s (by omega) (by omega)), a9.fr (fun s _ _ => hf s (by omega) (by omega)), a10, hn, a12, a13, a14⟩
theorem RR.putC (h : RR I A Y) {ws : List (Nat × Nat)} (hf : ∀ s, (s < 412 ∨ 1012 ≤ s) → s ≠ 15 → I' 337 s = I 337 s) (hc : I' 337 15 = nI ws.length) (hl : lst (I' 337) 412 3 ws gC) (hn : ws.length ≤ 190) : RR I' (setC A ws) Y := by
  obtain ⟨a1, ⟨a2, a3, a4, a5⟩, a6, a7, a8, a9, a10, a11, a12, a13, a14⟩ := h
  exact ⟨a1.of (fun s h1 h2 => hf s (by omega) (by omega)), ⟨by rw [hf _ (by omega) (by omega)]; exact a2, hc, by rw [hf _ (by omega) (by omega)]; exact a4, by rw [hf _ (by omega) (by omega)]; exact a5⟩, a6.fr (fun s _ _ => hf s (by omega) (by omega)), hl, a8.fr (fun s _ _ => hf s (by omega) (by omega)), a9.fr (fun s _ _ => hf s (by omega) (by omega)), a10, a11, hn, a13, a14⟩
theorem RR.putY (h : RR I A Y) {Z ys : List (Nat × Nat × Nat × Nat)} (hf : ∀ s, (s < 1012 ∨ 2012 ≤ s) → s ≠ 16 → I' 337 s = I 337 s) (hc : I' 337 16 = nI Z.length) (hl : lst (I' 337) 1012 5 Z gY) (hp : Z.Perm ys) (hn : Z.length ≤ 190) : RR I' (setY A ys) Z := by
  obtain ⟨a1, ⟨a2, a3, a4, a5⟩, a6, a7, a8, a9, a10, a11, a12, a13, a14⟩ := h
  exact ⟨a1.of (fun s h1 h2 => hf s (by omega) (by omega)), ⟨by rw [hf _ (by omega) (by omega)]; exact a2, by rw [hf _ (by omega) (by omega)]; exact a3, hc, by rw [hf _ (by omega) (by omega)]; exact a5⟩, a6.fr (fun s _ _ => hf s (by omega) (by omega)), a7.fr (fun s _ _ => hf s (by omega) (by omega)), hl, a9.fr (fun s _ _ => hf s (by omega) (by omega)), hp, a11, a12, hn, a14⟩
theorem RR.putQ (h : RR I A Y) {ws : List Nat} (hf : ∀ s, s < 2012 → s ≠ 17 → I' 337 s = I 337 s) (hc : I' 337 17 = nI ws.length) (hl : lst (I' 337) 2012 1 ws gQ) (hn : ws.length ≤ 190) : RR I' (setQ A ws) Y := by
  obtain ⟨a1, ⟨a2, a3, a4, a5⟩, a6, a7, a8, a9, a10, a11, a12, a13, a14⟩ := h
  exact ⟨a1.of (fun s h1 h2 => hf s (by omega) (by omega)), ⟨by rw [hf _ (by omega) (by omega)]; exact a2, by rw [hf _ (by omega) (by omega)]; exact a3, by rw [hf _ (by omega) (by omega)]; exact a4, hc⟩, a6.fr (fun s _ _ => hf s (by omega) (by omega)), a7.fr (fun s _ _ => hf s (by omega) (by omega)), a8.fr (fun s _ _ => hf s (by omega) (by omega)), hl, a10, a11, a12, a13, hn⟩
end RRS
theorem insY_perm {x : Nat × Nat × Nat × Nat} : ∀ (ys : List (Nat × Nat × Nat × Nat)), (insY x ys).Perm (x :: ys)
  | [] => List.Perm.refl _
  | y :: ys => by
    unfold insY
    by_cases h : y.2.2.2 ≤ x.2.2.2
    · rw [if_pos h]
      exact ((insY_perm ys).cons y).trans (List.Perm.swap x y ys)
    · rw [if_neg h]
