-- sums
def tot (f : Nat → Nat) : Nat → Nat
  | 0 => 0
  | n + 1 => tot f n + f n
theorem tot_ext {f g : Nat → Nat} : ∀ (n : Nat), (∀ i, i < n → f i = g i) → tot f n = tot g n
  | 0, _ => rfl
  | n + 1, h => by
    unfold tot
    rw [tot_ext n (fun i hi => h i (by omega)), h n (by omega)]
theorem tot_upd {f g : Nat → Nat} {i : Nat} (hne : ∀ k, k ≠ i → g k = f k) : ∀ (n : Nat), i < n → tot g n + f i = tot f n + g i
  | 0, h => absurd h (by omega)
  | n + 1, h => by
    unfold tot
    by_cases hi : i = n
    · subst hi
      rw [tot_ext i (fun k hk => hne k (by omega))]
      omega
    · have := tot_upd hne n (by omega)
      rw [hne n (fun q => hi q.symm)]
      omega
theorem tot_same {f g : Nat → Nat} {i : Nat} (hne : ∀ k, k ≠ i → g k = f k) {n : Nat} (h : n ≤ i) : tot g n = tot f n := tot_ext n (fun k hk => hne k (by omega))
theorem tot_le {f : Nat → Nat} {i : Nat} : ∀ (n : Nat), i < n → f i ≤ tot f n
  | 0, h => absurd h (by omega)
  | n + 1, h => by
    unfold tot
    by_cases hi : i = n
    · subst hi; omega
    · have := tot_le (f := f) n (by omega : i < n)
      omega
theorem tot_mono {f g : Nat → Nat} : ∀ (n : Nat), (∀ i, i < n → f i ≤ g i) → tot f n ≤ tot g n
  | 0, _ => Nat.le_refl _
  | n + 1, h => by
    unfold tot
    have h1 := tot_mono n (fun i hi => h i (by omega))
    have h2 := h n (by omega)
    omega
theorem tot_const (k : Nat) : ∀ (n : Nat), tot (fun _ => k) n = n * k
  | 0 => by simp [tot]
  | n + 1 => by
    unfold tot
    rw [tot_const k n, Nat.succ_mul]
/-- how many of a list have a place, summed over the places -/
theorem tot_count {α : Type} (f : α → Nat) (n : Nat) : ∀ (xs : List α), (∀ x ∈ xs, f x < n) → tot (fun c => xs.countP (fun x => f x == c)) n = xs.length
  | [], _ => by
    have : ∀ n, tot (fun c => ([] : List α).countP (fun x => f x == c)) n = 0 := by
      intro n
      induction n with
      | zero => rfl
      | succ n ih => unfold tot; rw [ih]; rfl
    exact this n
  | x :: xs, h => by
    have h1 := tot_count f n xs (fun y hy => h y (List.mem_cons_of_mem _ hy))
    have h2 := tot_upd (f := fun c => xs.countP (fun x => f x == c)) (g := fun c => (x :: xs).countP (fun x => f x == c)) (i := f x) (fun k hk => by
      rw [List.countP_cons_of_neg (by simpa using fun q => hk q.symm)]) n (h x List.mem_cons_self)
    rw [List.length_cons, ← h1]
    have h3 : (x :: xs).countP (fun y => f y == f x) = xs.countP (fun y => f y == f x) + 1 := List.countP_cons_of_pos (by simp)
    rw [h3] at h2
    omega
-- the acts, on the abstract state
def hf (A : St) : Nat → Nat := if sN A 1 4 = 0 then (fun _ => 0) else sN A 11
def nxC (h : Nat → Nat) (p : Nat) : List (Nat × Nat) → Nat → Option (Nat × Nat) → Option (Nat × Nat)
  | [], _, b => b
  | c :: cs, i, b => nxC h p cs (i + 1) (if c.1 % 4 = p then (match b with
    | none => some (i, h c.1)
    | some jm => if jm.2 < h c.1 then some (i, h c.1) else some jm) else b)
/-- which call of a part is answered next -/
def callNext (A : St) (p : Nat) : Option Nat := (nxC (hf A) p (sC A) 0 none).map (·.1)
def answ1 (A : St) (p k c : Nat) : St := begW (setT (setN (setC A ((sC A).eraseIdx k)) 13 p (sN A 13 p - 1)) 0 18 (sT A 0 18 + 1)) 3 c (sN A 6 (c / 4))
def answ : Nat → St → Nat → St
  | 0, A, _ => A
  | n + 1, A, p => if sN A 13 p = 0 then A else match callNext A p with
    | none => A
    | some k => match (sC A)[k]? with
      | none => A
      | some c => answ n (answ1 A p k c.1) p
def fill : Nat → St → St
  | 0, A => A
  | n + 1, A => if sN A 1 2 ≤ sN A 0 11 then A else match sQ A with
    | [] => A
    | p :: qs => fill n (begW (setQ A qs) 2 p (sN A 4 p))
def wIdx1 (A : St) (c : Nat) : Option Nat := fidx (fun w : Nat × Nat × Nat => w.1 == c) (sW A) 0 0
def recvW (A : St) (c k d : Nat) : St :=
  let w : Int32 := nI (sN A 0 9) - nI d
  setT (setT (setT (setN (setW A ((sW A).eraseIdx k)) 11 c (sN A 11 c - 1)) 0 14 (sT A 0 14 + 1)) 0 15 (sT A 0 15 + w)) 0 16 (if sT A 0 16 < w then w else sT A 0 16)
def recv (A : St) (c : Nat) : St := match wIdx1 A c with
  | none => setN A 10 c (sN A 10 c + 1)
  | some k => match (sW A)[k]? with
    | none => A
    | some w => recvW A c k w.2.1
def come (A : St) (kind c : Nat) : St :=
  if kind = 1 then fill 3 (setQ A (sQ A ++ [c % 4]))
  else if kind = 2 then
    let B := setN (setN A 0 11 (sN A 0 11 - 1)) 13 (c % 4) (sN A 13 (c % 4) + 1)
    fill 3 (answ (sC B).length B (c % 4))
  else recv A c
def arr : Nat → St → St
  | 0, A => A
  | n + 1, A => match sY A with
    | [] => A
    | y :: ys => if y.2.2.2 ≤ sN A 0 9 then arr n (come (setY A ys) y.1 y.2.2.1) else A
/-- the base that lends for a place: of those above keep the one of least ship, the first -/
def lendF (A : St) (c : Nat) : Nat → Option Nat
  | 0 => none
  | b + 1 => match lendF A c b with
    | none => if 4 * b + c % 4 ≠ c ∧ sN A 1 3 < sN A 10 (4 * b + c % 4) then some b else none
    | some q => if 4 * b + c % 4 ≠ c ∧ sN A 1 3 < sN A 10 (4 * b + c % 4) ∧ sN A 6 b < sN A 6 q then some b else some q
def lend1 (A : St) (i c q : Nat) (w : Nat × Nat × Nat) : St :=
  let f := 4 * q + c % 4
  let B := setN (setW A ((sW A).set i (w.1, w.2.1, 1))) 10 f (sN A 10 f - 1)
  let B := setT B 12 f (sT B 12 f - 1)
  let B := setT B 12 c (sT B 12 c + 1)
  let B := setT B 0 17 (sT B 0 17 + 1)
  begW B 4 c (sN A 6 q + sN A 6 (c / 4))
def lends : Nat → Nat → St → St
  | 0, _, A => A
  | n + 1, i, A => match (sW A)[i]? with
    | none => A
    | some w => if w.2.2 ≠ 0 then lends n (i + 1) A else match lendF A w.1 (sN A 1 1) with
      | none => lends n (i + 1) A
      | some q => lends n (i + 1) (lend1 A i w.1 q w)
def goDay (A : St) : St :=
  let B := arr 184 (setN A 0 9 (sN A 0 9 + 1))
  lends (sW B).length 0 B
def canBr (A : St) (c : Nat) : Prop := sN A 11 c < sN A 7 c
def brkA (A : St) (c : Nat) : St :=
  let B := setT A 0 12 (sT A 0 12 + 1)
  if sN A 10 c = 0 then setW (setN B 11 c (sN A 11 c + 1)) (sW A ++ [(c, sN A 0 9, 0)])
  else setT (setN B 10 c (sN A 10 c - 1)) 0 13 (sT A 0 13 + 1)
def brk (A : St) (c : Nat) : St :=
  let B := brkA A c
  if sN A 3 (c % 4) = 0 then
    let D := begW B 1 c (sN A 6 (c / 4))
    let D := setC D (sC D ++ [(c, sN A 0 9)])
    answ (sC D).length D (c % 4)
  else begW B 0 c (sN A 3 (c % 4))
-- what always holds of a state in play
def vc (A : St) (c : Nat) : Prop := c / 4 < sN A 1 1 ∧ c % 4 < sN A 1 0
def k2 (y : Nat × Nat × Nat × Nat) : Bool := y.1 == 2
def k12 (y : Nat × Nat × Nat × Nat) : Bool := y.1 == 1 || y.1 == 2
def TP (A : St) : Nat := (sY A).length + (sQ A).length + tot (sN A 13) 4 + tot (sN A 10) 16 + tot (fun c => sN A 7 c - sN A 11 c) 16
/-- what is told -/
def SetOk (A : St) : Prop :=
  (sN A 1 0 ≤ 3 ∧ sN A 1 1 ≤ 3 ∧ 1 ≤ sN A 1 2 ∧ sN A 1 2 ≤ 3 ∧ sN A 1 3 ≤ 4 ∧ sN A 1 4 ≤ 1) ∧
  (∀ p, p < 4 → sN A 2 p ≤ 30 ∧ sN A 3 p ≤ 9 ∧ sN A 4 p ≤ 9 ∧ sN A 5 p ≤ 9 ∧ sN A 6 p ≤ 9) ∧
  (∀ p, p < sN A 1 0 → 1 ≤ sN A 2 p ∧ 1 ≤ sN A 4 p) ∧ (∀ b, b < sN A 1 1 → 1 ≤ sN A 6 b) ∧
  (∀ c, c < 16 → sN A 7 c ≤ 8 ∧ sN A 8 c ≤ 12 ∧ sN A 9 c ≤ 10) ∧
  (∀ c, c < 16 → ¬ vc A c → sN A 7 c = 0 ∧ sN A 8 c = 0 ∧ sN A 9 c = 0) ∧ (∀ p, p < 4 → sN A 1 0 ≤ p → sN A 2 p = 0 ∧ sN A 3 p = 0 ∧ sN A 4 p = 0 ∧ sN A 5 p = 0) ∧ (∀ b, b < 4 → sN A 1 1 ≤ b → sN A 6 b = 0)
/-- what is played -/
def DynX (t s : Nat) (A : St) : Prop :=
  (∀ c, c < 16 → sN A 11 c ≤ sN A 7 c ∧ sN A 11 c = (sW A).countP (fun w => w.1 == c)) ∧
  (∀ c, c < 16 → ¬ vc A c → sN A 10 c = 0) ∧ (∀ p, p < 4 → sN A 1 0 ≤ p → sN A 13 p = 0) ∧
  (∀ w ∈ sW A, vc A w.1 ∧ w.2.1 ≤ sN A 0 9 ∧ w.2.2 ≤ 1) ∧ (∀ w ∈ sC A, vc A w.1 ∧ w.2 ≤ sN A 0 9) ∧
  (∀ y ∈ sY A, y.1 ≤ 4 ∧ (y.1 = 2 → y.2.2.1 < sN A 1 0) ∧ (y.1 ≠ 2 → vc A y.2.2.1) ∧ y.2.2.2 ≤ sN A 0 9 + 18) ∧ (∀ q ∈ sQ A, q < sN A 1 0) ∧
  TP A ≤ t ∧ (sC A).length ≤ (sY A).countP k12 + (sQ A).length + tot (sN A 13) 4 + s ∧ sN A 0 11 = (sY A).countP k2 ∧
  (sY A).Pairwise ltY ∧ (∀ y ∈ sY A, y.2.1 < sN A 0 10) ∧ sN A 0 9 ≤ 10000 ∧ (sW A).Pairwise (fun a b => a.2.1 ≤ b.2.1)
abbrev DynT (t : Nat) (A : St) : Prop := DynX t 0 A
abbrev DynOk (A : St) : Prop := DynT 183 A
theorem vc_lt {A : St} (h : SetOk A) {c : Nat} (hc : vc A c) : c < 12 ∧ c % 4 < 3 := by
  have h1 := h.1.1
  have h2 := h.1.2.1
  unfold vc at hc
  omega
theorem DynX.wf {A : St} {t s : Nat} (hs : SetOk A) (h : DynX t s A) (hb : sN A 0 10 < 2 ^ 30) : Wf A := by
  obtain ⟨h1, h2, h3, h4, h5, h6, h7, h8, h9, h10, h11, h12, h13, h14⟩ := h
  have s1 := hs.1.1
  refine ⟨fun y hy => ?_, h11, fun w hw => ?_, fun w hw => ?_, fun q hq => ?_, by omega, hb⟩
  · obtain ⟨a1, a2, a3, a4⟩ := h6 y hy
    refine ⟨by omega, h12 y hy, ?_, by omega⟩
    by_cases hk : y.1 = 2
    · have := a2 hk; omega
    · have := vc_lt hs (a3 hk); omega
  · obtain ⟨a1, a2, a3⟩ := h4 w hw
    have := vc_lt hs a1
    exact ⟨by omega, by omega, by omega⟩
  · obtain ⟨a1, a2⟩ := h5 w hw
    have := vc_lt hs a1
    exact ⟨by omega, by omega⟩
  · have := h7 q hq; omega
theorem DynX.yl {A : St} {t s : Nat} (h : DynX t s A) : (sY A).length + (sQ A).length ≤ t := by
  have := h.2.2.2.2.2.2.2.1
  unfold TP at this
  omega
theorem insY_mem {x y : Nat × Nat × Nat × Nat} : ∀ (ys : List (Nat × Nat × Nat × Nat)), y ∈ insY x ys ↔ y = x ∨ y ∈ ys
  | [] => by simp [insY]
  | z :: ys => by
    unfold insY
    by_cases h : z.2.2.2 ≤ x.2.2.2
    · rw [if_pos h, List.mem_cons, insY_mem ys, List.mem_cons]
      constructor
      · rintro (h | h | h)
        · exact Or.inr (Or.inl h)
        · exact Or.inl h
        · exact Or.inr (Or.inr h)
      · rintro (h | h | h)
        · exact Or.inr (Or.inl h)
        · exact Or.inl h
        · exact Or.inr (Or.inr h)
    · rw [if_neg h, List.mem_cons]
theorem insY_len {x : Nat × Nat × Nat × Nat} : ∀ (ys : List (Nat × Nat × Nat × Nat)), (insY x ys).length = ys.length + 1
  | [] => rfl
  | z :: ys => by
    unfold insY
    by_cases h : z.2.2.2 ≤ x.2.2.2
    · rw [if_pos h, List.length_cons, insY_len ys, List.length_cons]
    · rw [if_neg h]; rfl
theorem insY_countP {x : Nat × Nat × Nat × Nat} (P : Nat × Nat × Nat × Nat → Bool) : ∀ (ys : List (Nat × Nat × Nat × Nat)), (insY x ys).countP P = ys.countP P + (if P x then 1 else 0)
  | [] => by simp [insY, List.countP_cons]
  | z :: ys => by
    unfold insY
    by_cases h : z.2.2.2 ≤ x.2.2.2
    · rw [if_pos h, List.countP_cons, insY_countP P ys, List.countP_cons]
      omega
    · rw [if_neg h, List.countP_cons]
theorem insY_sorted {x : Nat × Nat × Nat × Nat} : ∀ (ys : List (Nat × Nat × Nat × Nat)), ys.Pairwise ltY → (∀ y ∈ ys, y.2.1 < x.2.1) → (insY x ys).Pairwise ltY
  | [], _, _ => by simp [insY]
  | z :: ys, h, hx => by
    rw [List.pairwise_cons] at h
    unfold insY
    by_cases hz : z.2.2.2 ≤ x.2.2.2
    · rw [if_pos hz, List.pairwise_cons]
      refine ⟨fun y hy => ?_, insY_sorted ys h.2 (fun y hy => hx y (List.mem_cons_of_mem _ hy))⟩
      rcases (insY_mem ys).mp hy with rfl | hy
      · have := hx z List.mem_cons_self
        unfold ltY
        omega
      · exact h.1 y hy
    · rw [if_neg hz, List.pairwise_cons, List.pairwise_cons]
      refine ⟨fun y hy => ?_, h⟩
      rcases List.mem_cons.mp hy with rfl | hy
      · unfold ltY; omega
      · have := h.1 y hy
        unfold ltY at this ⊢
        omega
section BEG
variable {A : St} {k c d : Nat}
theorem begW_Nj {j : Nat} (hj : j ≠ 0) : sN (begW A k c d) j = sN A j := by
  unfold begW
  by_cases h : k = 2
  · simp only [h, if_true]
    show u2 (u2 A.1 0 10 _) 0 11 _ j = A.1 j
    rw [u2_ne hj, u2_ne hj]
  · simp only [h, if_false]
    show u2 A.1 0 10 _ j = A.1 j
    rw [u2_ne hj]
theorem begW_9 : sN (begW A k c d) 0 9 = sN A 0 9 := by
  unfold begW
  by_cases h : k = 2 <;> simp [h, sN, setN, setY, u2_at]
theorem begW_10 : sN (begW A k c d) 0 10 = sN A 0 10 + 1 := by
  unfold begW
  by_cases h : k = 2 <;> simp [h, sN, setN, setY, u2_at]
theorem begW_11 : sN (begW A k c d) 0 11 = sN A 0 11 + (if k = 2 then 1 else 0) := by
  unfold begW
  by_cases h : k = 2 <;> simp [h, sN, setN, setY, u2_at]
theorem begW_T : sT (begW A k c d) = sT A := by unfold begW; by_cases h : k = 2 <;> simp [h]
theorem begW_W : sW (begW A k c d) = sW A := by unfold begW; by_cases h : k = 2 <;> simp [h]
theorem begW_C : sC (begW A k c d) = sC A := by unfold begW; by_cases h : k = 2 <;> simp [h]
theorem begW_Q : sQ (begW A k c d) = sQ A := by unfold begW; by_cases h : k = 2 <;> simp [h]
theorem begW_Y : sY (begW A k c d) = insY (k, sN A 0 10, c, sN A 0 9 + d) (sY A) := by unfold begW; by_cases h : k = 2 <;> simp [h]
end BEG
theorem vc_eq {A B : St} (h : sN B 1 = sN A 1) (c : Nat) : vc B c ↔ vc A c := by unfold vc; rw [h]
theorem SetOk.same {A B : St} (h : SetOk A) (he : ∀ j, 1 ≤ j → j ≤ 9 → sN B j = sN A j) : SetOk B := by
  have e1 := he 1 (by omega) (by omega)
  unfold SetOk vc at h ⊢
  rw [e1, he 2 (by omega) (by omega), he 3 (by omega) (by omega), he 4 (by omega) (by omega), he 5 (by omega) (by omega), he 6 (by omega) (by omega), he 7 (by omega) (by omega), he 8 (by omega) (by omega), he 9 (by omega) (by omega)]
  exact h
/-- a way more -/
theorem DynX.begs {A : St} {t s s' k c d : Nat} (h : DynX t s A) (hk : k ≤ 4) (h2 : k = 2 → c < sN A 1 0) (hn2 : k ≠ 2 → vc A c) (hd : d ≤ 18) (hss : s ≤ s' + (if k = 1 ∨ k = 2 then 1 else 0)) : DynX (t + 1) s' (begW A k c d) := by
  obtain ⟨h1, h2', h3, h4, h5, h6, h7, h8, h9, h10, h11, h12, h13, h14⟩ := h
  have e1 : sN (begW A k c d) 1 = sN A 1 := begW_Nj (by omega)
  unfold DynX TP
  simp only [begW_W, begW_C, begW_Q, begW_Y, begW_9, begW_10, begW_11, vc_eq e1, begW_Nj (A := A) (k := k) (c := c) (d := d) (show 1 ≠ 0 by omega), begW_Nj (A := A) (k := k) (c := c) (d := d) (show 7 ≠ 0 by omega), begW_Nj (A := A) (k := k) (c := c) (d := d) (show 10 ≠ 0 by omega), begW_Nj (A := A) (k := k) (c := c) (d := d) (show 11 ≠ 0 by omega), begW_Nj (A := A) (k := k) (c := c) (d := d) (show 13 ≠ 0 by omega)]
  refine ⟨h1, h2', h3, h4, h5, fun y hy => ?_, h7, ?_, ?_, ?_, insY_sorted _ h11 (fun y hy => h12 y hy), fun y hy => ?_, h13, h14⟩
  · rcases (insY_mem _).mp hy with rfl | hy
    · exact ⟨hk, h2, hn2, by show _ + _ ≤ _; omega⟩
    · exact h6 y hy
  · unfold TP at h8
    rw [insY_len]
    omega
  · rw [insY_countP]
    have hkk : (if k12 (k, sN A 0 10, c, sN A 0 9 + d) = true then 1 else 0) = (if k = 1 ∨ k = 2 then 1 else 0) := by simp [k12]
    rw [hkk]
    omega
  · rw [insY_countP, h10]
    by_cases hk2 : k = 2
    · simp [k2, hk2]
    · simp [k2, hk2]
  · rcases (insY_mem _).mp hy with rfl | hy
    · exact Nat.lt_succ_self _
    · have := h12 y hy; omega
theorem DynX.beg {A : St} {t k c d : Nat} (h : DynX t 0 A) (hk : k ≤ 4) (h2 : k = 2 → c < sN A 1 0) (hn2 : k ≠ 2 → vc A c) (hd : d ≤ 18) : DynX (t + 1) 0 (begW A k c d) := h.begs hk h2 hn2 hd (Nat.zero_le _)
