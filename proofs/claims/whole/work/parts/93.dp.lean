/-! the best with a purse, as a table: what the cells from the k-th on lack, cost, and how many spares of it -/
def lexlt (a b : Nat × Nat) : Prop := a.1 < b.1 ∨ (a.1 = b.1 ∧ a.2 < b.2)
def cK (k : Nat) : Nat := 4 * (k / 3) + k % 3
def cand (A : St) (W : Nat → Nat × Nat × Nat) (k m s : Nat) : Nat × Nat := (lkc A (cK k) s + (W (m - s * sN A 2 (k % 3))).1, s * sN A 2 (k % 3) + (W (m - s * sN A 2 (k % 3))).2.1)
def dpU (c : Nat × Nat) (s : Nat) (cur : Nat × Nat × Nat) : Nat × Nat × Nat := if s = 0 ∨ c.1 < cur.1 ∨ (c.1 = cur.1 ∧ c.2 < cur.2.1) then (c.1, c.2, s) else cur
def scan (A : St) (W : Nat → Nat × Nat × Nat) (k m lim : Nat) : Nat → Nat → Nat × Nat × Nat → Nat × Nat × Nat
  | 0, _, cur => cur
  | f + 1, s, cur => if s ≤ lim ∧ s * sN A 2 (k % 3) ≤ m then scan A W k m lim f (s + 1) (dpU (cand A W k m s) s cur) else cur
/-- the table, by how many cells are left -/
def VV (A : St) : Nat → Nat → Nat × Nat × Nat
  | 0, _ => (0, 0, 0)
  | j + 1, m => scan A (VV A j) (8 - j) m (sN A 7 (cK (8 - j))) 10 0 (0, 0, 0)
abbrev vl (x : Nat × Nat × Nat) : Nat × Nat := (x.1, x.2.1)
theorem scan_s {A : St} {W : Nat → Nat × Nat × Nat} {k m lim f s : Nat} {cur : Nat × Nat × Nat} : scan A W k m lim (f + 1) s cur = if s ≤ lim ∧ s * sN A 2 (k % 3) ≤ m then scan A W k m lim f (s + 1) (dpU (cand A W k m s) s cur) else cur := rfl
/-- the state of a scan that has seen those below s -/
def SI (A : St) (W : Nat → Nat × Nat × Nat) (k m lim s : Nat) (cur : Nat × Nat × Nat) : Prop := s = 0 ∨ (vl cur = cand A W k m cur.2.2 ∧ cur.2.2 ≤ lim ∧ cur.2.2 * sN A 2 (k % 3) ≤ m ∧ ∀ q, q < s → q ≤ lim → q * sN A 2 (k % 3) ≤ m → ¬ lexlt (cand A W k m q) (vl cur))
theorem SI_upd {A : St} {W : Nat → Nat × Nat × Nat} {k m lim s : Nat} {cur : Nat × Nat × Nat} (h : SI A W k m lim s cur) (h1 : s ≤ lim) (h2 : s * sN A 2 (k % 3) ≤ m) : SI A W k m lim (s + 1) (dpU (cand A W k m s) s cur) := by
  unfold dpU
  by_cases hc : s = 0 ∨ (cand A W k m s).1 < cur.1 ∨ ((cand A W k m s).1 = cur.1 ∧ (cand A W k m s).2 < cur.2.1)
  · rw [if_pos hc]
    refine Or.inr ⟨rfl, h1, h2, fun q a b c hl => ?_⟩
    have hl : lexlt (cand A W k m q) (cand A W k m s) := hl
    by_cases hqs : q = s
    · rw [hqs] at hl
      unfold lexlt at hl
      omega
    · rcases h with h | h
      · omega
      · have := h.2.2.2 q (by omega) b c
        have hc : (cand A W k m s).1 < cur.1 ∨ ((cand A W k m s).1 = cur.1 ∧ (cand A W k m s).2 < cur.2.1) := hc.resolve_left (by omega)
        unfold lexlt at this hl
        simp only at this
        omega
  · rw [if_neg hc]
    rcases h with h | h
    · exact absurd (Or.inl h) hc
    · refine Or.inr ⟨h.1, h.2.1, h.2.2.1, fun q a b c hl => ?_⟩
      by_cases hqs : q = s
      · rw [hqs] at hl
        unfold lexlt at hl
        simp only at hl
        exact hc (Or.inr hl)
      · exact h.2.2.2 q (by omega) b c hl
theorem scan_spec {A : St} {W : Nat → Nat × Nat × Nat} {k m lim : Nat} (hlim : lim ≤ 9) : ∀ (f s : Nat) (cur : Nat × Nat × Nat), s + f = 10 → SI A W k m lim s cur → ∃ r, scan A W k m lim f s cur = r ∧ vl r = cand A W k m r.2.2 ∧ r.2.2 ≤ lim ∧ r.2.2 * sN A 2 (k % 3) ≤ m ∧ ∀ q, q ≤ lim → q * sN A 2 (k % 3) ≤ m → ¬ lexlt (cand A W k m q) (vl r)
  | 0, s, cur, hs, h => by
    rcases h with h | h
    · omega
    · exact ⟨cur, rfl, h.1, h.2.1, h.2.2.1, fun q a b => h.2.2.2 q (by omega) a b⟩
  | f + 1, s, cur, hs, h => by
    rw [scan_s]
    by_cases hc : s ≤ lim ∧ s * sN A 2 (k % 3) ≤ m
    · rw [if_pos hc]
      exact scan_spec hlim f (s + 1) _ (by omega) (SI_upd h hc.1 hc.2)
    · rw [if_neg hc]
      rcases h with h | h
      · subst h
        exact absurd ⟨Nat.zero_le _, by rw [Nat.zero_mul]; exact Nat.zero_le _⟩ hc
      · refine ⟨cur, rfl, h.1, h.2.1, h.2.2.1, fun q a b => h.2.2.2 q ?_ a b⟩
        rcases Nat.lt_or_ge q s with g | g
        · exact g
        · exfalso
          exact hc ⟨by omega, Nat.le_trans (Nat.mul_le_mul_right _ g) b⟩
section DP
variable {A : St}
theorem VV_spec (hs : SetOk A) {j m : Nat} (hj : j < 9) : vl (VV A (j + 1) m) = cand A (VV A j) (8 - j) m (VV A (j + 1) m).2.2 ∧ (VV A (j + 1) m).2.2 ≤ sN A 7 (cK (8 - j)) ∧ (VV A (j + 1) m).2.2 * sN A 2 ((8 - j) % 3) ≤ m ∧ ∀ q, q ≤ sN A 7 (cK (8 - j)) → q * sN A 2 ((8 - j) % 3) ≤ m → ¬ lexlt (cand A (VV A j) (8 - j) m q) (vl (VV A (j + 1) m)) := by
  have hu := (uo_b hs (c := cK (8 - j)) (by unfold cK; omega)).1
  obtain ⟨r, e, a, b, c, d⟩ := scan_spec (A := A) (W := VV A j) (k := 8 - j) (m := m) (lim := sN A 7 (cK (8 - j))) (by omega) 10 0 (0, 0, 0) (by omega) (Or.inl rfl)
  have e' : VV A (j + 1) m = r := e
  rw [e']
  exact ⟨a, b, c, d⟩
theorem VV_cost (hs : SetOk A) : ∀ (j m : Nat), j ≤ 9 → (VV A j m).2.1 ≤ m
  | 0, m, _ => Nat.zero_le _
  | j + 1, m, hj => by
    obtain ⟨a, b, c, d⟩ := VV_spec hs (j := j) (m := m) (by omega)
    have h2 : (VV A (j + 1) m).2.1 = (cand A (VV A j) (8 - j) m (VV A (j + 1) m).2.2).2 := congrArg Prod.snd a
    rw [h2]
    unfold cand
    have := VV_cost hs j (m - (VV A (j + 1) m).2.2 * sN A 2 ((8 - j) % 3)) (by omega)
    simp only
    omega
theorem VV_lack (hs : SetOk A) : ∀ (j m : Nat), j ≤ 9 → (VV A j m).1 ≤ j * 3439853568
  | 0, m, _ => Nat.zero_le _
  | j + 1, m, hj => by
    obtain ⟨a, b, c, d⟩ := VV_spec hs (j := j) (m := m) (by omega)
    obtain ⟨hu, ho⟩ := uo_b hs (c := cK (8 - j)) (by unfold cK; omega)
    have h2 : (VV A (j + 1) m).1 = (cand A (VV A j) (8 - j) m (VV A (j + 1) m).2.2).1 := congrArg Prod.fst a
    rw [h2]
    unfold cand
    have := VV_lack hs j (m - (VV A (j + 1) m).2.2 * sN A 2 ((8 - j) % 3)) (by omega)
    have := (lkV_d _ hu _ ho (VV A (j + 1) m).2.2 (by omega)).2.1
    unfold lkc
    simp only
    omega
theorem VV_mono (hs : SetOk A) : ∀ (j m m' : Nat), j ≤ 9 → m ≤ m' → ¬ lexlt (vl (VV A j m)) (vl (VV A j m'))
  | 0, m, m', _, _ => by unfold VV lexlt; simp
  | j + 1, m, m', hj, hm => by
    obtain ⟨a, b, c, d⟩ := VV_spec hs (j := j) (m := m) (by omega)
    obtain ⟨a', b', c', d'⟩ := VV_spec hs (j := j) (m := m') (by omega)
    have h1 := d' _ b (by omega)
    have ih := VV_mono hs j (m - (VV A (j + 1) m).2.2 * sN A 2 ((8 - j) % 3)) (m' - (VV A (j + 1) m).2.2 * sN A 2 ((8 - j) % 3)) (by omega) (by omega)
    rw [a]
    unfold cand at *
    unfold lexlt at *
    simp only at *
    omega
/-- more spares than units are never better -/
theorem cand_more (hs : SetOk A) {j m s u : Nat} (hj : j < 9) (hu : u = sN A 7 (cK (8 - j))) (hp : 1 ≤ sN A 2 ((8 - j) % 3)) (hus : u < s) (hs9 : s ≤ 9) (hsm : s * sN A 2 ((8 - j) % 3) ≤ m) : lexlt (cand A (VV A j) (8 - j) m u) (cand A (VV A j) (8 - j) m s) := by
  obtain ⟨hu9, ho⟩ := uo_b hs (c := cK (8 - j)) (by unfold cK; omega)
  have z1 : lkc A (cK (8 - j)) u = 0 := (lkV_d _ hu9 _ ho u (by omega)).2.2 (by omega)
  have z2 : lkc A (cK (8 - j)) s = 0 := by
    unfold lkc
    exact (lkV_d _ hu9 _ ho s (by omega)).2.2 (by omega)
  have hmul : u * sN A 2 ((8 - j) % 3) + sN A 2 ((8 - j) % 3) ≤ s * sN A 2 ((8 - j) % 3) := by
    rw [← Nat.succ_mul]
    exact Nat.mul_le_mul_right _ hus
  have mono := VV_mono hs j (m - s * sN A 2 ((8 - j) % 3)) (m - u * sN A 2 ((8 - j) % 3)) (by omega) (by omega)
  unfold cand
  rw [z1, z2]
  unfold lexlt at *
  simp only at *
  omega
theorem scan_ext (hs : SetOk A) {j m u : Nat} (hj : j < 9) (hu : u = sN A 7 (cK (8 - j))) (hp : 1 ≤ sN A 2 ((8 - j) % 3)) : ∀ (f s : Nat) (cur : Nat × Nat × Nat), s + f = 10 → u < s → (u * sN A 2 ((8 - j) % 3) ≤ m → ¬ lexlt (cand A (VV A j) (8 - j) m u) (vl cur)) → scan A (VV A j) (8 - j) m 9 f s cur = cur
  | 0, s, cur, _, _, _ => rfl
  | f + 1, s, cur, hsf, hus, hcu => by
    rw [scan_s]
    by_cases hc : s ≤ 9 ∧ s * sN A 2 ((8 - j) % 3) ≤ m
    · rw [if_pos hc]
      have hl := cand_more hs hj hu hp hus hc.1 hc.2
      have hum : u * sN A 2 ((8 - j) % 3) ≤ m := Nat.le_trans (Nat.mul_le_mul_right _ (Nat.le_of_lt hus)) hc.2
      have hcu := hcu hum
      have e : dpU (cand A (VV A j) (8 - j) m s) s cur = cur := by
        unfold dpU
        rw [if_neg]
        intro g
        unfold lexlt at hl hcu
        simp only at hcu
        omega
      rw [e]
      exact scan_ext hs hj hu hp f (s + 1) cur (by omega) (by omega) (fun _ => hcu)
    · rw [if_neg hc]
theorem scan_lim (hs : SetOk A) {j m u : Nat} (hj : j < 9) (hu : u = sN A 7 (cK (8 - j))) (hp : 1 ≤ sN A 2 ((8 - j) % 3)) : ∀ (f s : Nat) (cur : Nat × Nat × Nat), s + f = 10 → s ≤ u + 1 → SI A (VV A j) (8 - j) m u s cur → scan A (VV A j) (8 - j) m 9 f s cur = scan A (VV A j) (8 - j) m u f s cur
  | 0, s, cur, _, _, _ => rfl
  | f + 1, s, cur, hsf, hsu, hi => by
    have hu9 := (uo_b hs (c := cK (8 - j)) (by unfold cK; omega)).1
    by_cases h1 : s ≤ u
    · rw [scan_s, scan_s]
      by_cases h2 : s * sN A 2 ((8 - j) % 3) ≤ m
      · rw [if_pos ⟨by omega, h2⟩, if_pos ⟨h1, h2⟩]
        exact scan_lim hs hj hu hp f (s + 1) _ (by omega) (by omega) (SI_upd hi h1 h2)
      · rw [if_neg (fun g => h2 g.2), if_neg (fun g => h2 g.2)]
    · have e : scan A (VV A j) (8 - j) m u (f + 1) s cur = cur := by rw [scan_s, if_neg (fun g => h1 g.1)]
      rw [e]
      refine scan_ext hs hj hu hp (f + 1) s cur hsf (by omega) (fun hum => ?_)
      rcases hi with h | h
      · omega
      · exact h.2.2.2 u (by omega) (Nat.le_refl _) hum
/-- the reference looks at nine spares, and finds the same -/
theorem VV_nine (hs : SetOk A) {j m : Nat} (hj : j < 9) (hp : 1 ≤ sN A 2 ((8 - j) % 3)) : scan A (VV A j) (8 - j) m 9 10 0 (0, 0, 0) = VV A (j + 1) m := scan_lim hs hj rfl hp 10 0 (0, 0, 0) (by omega) (Nat.zero_le _) (Or.inl rfl)
/-- a cell that isn't there -/
theorem VV_null (hs : SetOk A) {j m : Nat} (hj : j < 9) (hn : ¬ vc A (cK (8 - j))) : VV A (j + 1) m = ((VV A j m).1, (VV A j m).2.1, 0) := by
  have hz := hs.2.2.2.2.2.1 (cK (8 - j)) (by unfold cK; omega) hn
  show scan A (VV A j) (8 - j) m (sN A 7 (cK (8 - j))) 10 0 (0, 0, 0) = _
  rw [scan_s, hz.1, if_pos ⟨Nat.le_refl _, by rw [Nat.zero_mul]; exact Nat.zero_le _⟩, scan_s, if_neg (fun g => absurd g.1 (by omega))]
  unfold dpU
  rw [if_pos (Or.inl rfl)]
  unfold cand
  have l0 : lkc A (cK (8 - j)) 0 = 0 := by
    unfold lkc
    obtain ⟨hu9, ho⟩ := uo_b hs (c := cK (8 - j)) (by unfold cK; omega)
    exact (lkV_d _ hu9 _ ho 0 (by omega)).2.2 (by omega)
  simp only
  rw [l0, Nat.zero_mul, Nat.zero_add, Nat.zero_add, Nat.sub_zero]
theorem cK_vc {k : Nat} (hk : k < 9) : vc A (cK k) ↔ k / 3 < sN A 1 1 ∧ k % 3 < sN A 1 0 := by
  unfold vc cK
  rw [show (4 * (k / 3) + k % 3) / 4 = k / 3 by omega, show (4 * (k / 3) + k % 3) % 4 = k % 3 by omega]
theorem VV_skip (hs : SetOk A) {k m : Nat} (hk : k < 9) (hn : ¬ (k / 3 < sN A 1 1 ∧ k % 3 < sN A 1 0)) : vl (VV A (9 - k) m) = vl (VV A (9 - (k + 1)) m) := by
  have e : 9 - k = (9 - (k + 1)) + 1 := by omega
  have e2 : 8 - (9 - (k + 1)) = k := by omega
  rw [e, VV_null hs (by omega) (by rw [e2, cK_vc hk]; exact hn)]
theorem VV_row (hs : SetOk A) {b p m : Nat} (hb : b < 3) (hp : sN A 1 0 ≤ p) : ∀ (d : Nat), p + d = 3 → vl (VV A (9 - (3 * b + p)) m) = vl (VV A (9 - (3 * b + 3)) m) := by
  intro d
  induction d generalizing p with
  | zero => intro h; rw [show p = 3 by omega]
  | succ d ih =>
    intro h
    rw [VV_skip hs (k := 3 * b + p) (by omega) (by omega), show 3 * b + p + 1 = 3 * b + (p + 1) by omega]
    exact ih (by omega) (by omega)
theorem VV_end (hs : SetOk A) {m : Nat} : ∀ (d k : Nat), k + d = 9 → 3 * sN A 1 1 ≤ k → vl (VV A (9 - k) m) = (0, 0)
  | 0, k, h, _ => by rw [show 9 - k = 0 by omega]; rfl
  | d + 1, k, h, hk => by
    rw [VV_skip hs (by omega) (by omega)]
    exact VV_end hs d (k + 1) (by omega) (by omega)
/-- the number of the i-th cell that is there -/
def numC (A : St) (i : Nat) : Nat := 3 * (i / sN A 1 0) + i % sN A 1 0
theorem VV_next (hs : SetOk A) {i m : Nat} (hi : i < sN A 1 1 * sN A 1 0) : vl (VV A (9 - (numC A i + 1)) m) = vl (VV A (9 - numC A (i + 1)) m) := by
  have h1 := hs.1.1
  have h2 := hs.1.2.1
  have hP : 0 < sN A 1 0 := by
    rcases Nat.eq_zero_or_pos (sN A 1 0) with g | g
    · rw [g] at hi; omega
    · exact g
  have hb : i / sN A 1 0 < sN A 1 1 := Nat.div_lt_of_lt_mul (by rw [Nat.mul_comm]; exact hi)
  have hm : i % sN A 1 0 < sN A 1 0 := Nat.mod_lt _ hP
  unfold numC
  by_cases hc : i % sN A 1 0 + 1 < sN A 1 0
  · have e1 : (i + 1) / sN A 1 0 = i / sN A 1 0 := by
      rw [Nat.div_eq_iff hP]
      have := Nat.div_add_mod i (sN A 1 0)
      rw [Nat.mul_comm] at this
      constructor <;> omega
    have e2 : (i + 1) % sN A 1 0 = i % sN A 1 0 + 1 := by
      have a := Nat.div_add_mod i (sN A 1 0)
      have b := Nat.div_add_mod (i + 1) (sN A 1 0)
      rw [e1] at b
      omega
    rw [e1, e2]
    congr 2
  · have e1 : (i + 1) / sN A 1 0 = i / sN A 1 0 + 1 := by
      rw [Nat.div_eq_iff hP]
      have := Nat.div_add_mod i (sN A 1 0)
      rw [Nat.mul_comm] at this
      rw [Nat.add_mul, Nat.one_mul]
      constructor <;> omega
    have e2 : (i + 1) % sN A 1 0 = 0 := by
      have a := Nat.div_add_mod i (sN A 1 0)
      have b := Nat.div_add_mod (i + 1) (sN A 1 0)
      rw [e1, Nat.mul_add, Nat.mul_one] at b
      omega
    rw [e1, e2]
    have := VV_row hs (b := i / sN A 1 0) (p := i % sN A 1 0 + 1) (m := m) (by omega) (by omega) (3 - (i % sN A 1 0 + 1)) (by omega)
    rw [show 3 * (i / sN A 1 0) + i % sN A 1 0 + 1 = 3 * (i / sN A 1 0) + (i % sN A 1 0 + 1) by omega, this]
    congr 2
/-- the way to the k-th cell's spares -/
def lf (A : St) (p : Nat) : Nat → Nat
  | 0 => p
  | k + 1 => lf A p k - (VV A (9 - k) (lf A p k)).2.2 * sN A 2 (k % 3)
theorem lf_le {p : Nat} : ∀ (k : Nat), lf A p k ≤ p
  | 0 => Nat.le_refl _
  | k + 1 => Nat.le_trans (Nat.sub_le _ _) (lf_le k)
theorem lf_skip (hs : SetOk A) {p k : Nat} (hk : k < 9) (hn : ¬ (k / 3 < sN A 1 1 ∧ k % 3 < sN A 1 0)) : lf A p (k + 1) = lf A p k := by
  show lf A p k - (VV A (9 - k) (lf A p k)).2.2 * sN A 2 (k % 3) = _
  have e : 9 - k = (9 - (k + 1)) + 1 := by omega
  have e2 : 8 - (9 - (k + 1)) = k := by omega
  rw [e, VV_null hs (by omega) (by rw [e2, cK_vc hk]; exact hn)]
  simp
theorem lf_row (hs : SetOk A) {b p q : Nat} (hb : b < 3) (hp : sN A 1 0 ≤ p) : ∀ (d : Nat), p + d = 3 → lf A q (3 * b + 3) = lf A q (3 * b + p) := by
  intro d
  induction d generalizing p with
  | zero => intro h; rw [show p = 3 by omega]
  | succ d ih =>
    intro h
    rw [← lf_skip hs (k := 3 * b + p) (by omega) (by omega), show 3 * b + p + 1 = 3 * b + (p + 1) by omega]
    exact ih (by omega) (by omega)
theorem lf_next (hs : SetOk A) {i q : Nat} (hi : i < sN A 1 1 * sN A 1 0) : lf A q (numC A (i + 1)) = lf A q (numC A i + 1) := by
  have h1 := hs.1.1
  have h2 := hs.1.2.1
  have hP : 0 < sN A 1 0 := by
    rcases Nat.eq_zero_or_pos (sN A 1 0) with g | g
    · rw [g] at hi; omega
    · exact g
  have hb : i / sN A 1 0 < sN A 1 1 := Nat.div_lt_of_lt_mul (by rw [Nat.mul_comm]; exact hi)
  have hm : i % sN A 1 0 < sN A 1 0 := Nat.mod_lt _ hP
  unfold numC
  by_cases hc : i % sN A 1 0 + 1 < sN A 1 0
  · have e1 : (i + 1) / sN A 1 0 = i / sN A 1 0 := by
      rw [Nat.div_eq_iff hP]
      have := Nat.div_add_mod i (sN A 1 0)
      rw [Nat.mul_comm] at this
      constructor <;> omega
    have e2 : (i + 1) % sN A 1 0 = i % sN A 1 0 + 1 := by
      have a := Nat.div_add_mod i (sN A 1 0)
      have b := Nat.div_add_mod (i + 1) (sN A 1 0)
      rw [e1] at b
      omega
    rw [e1, e2]
    congr 1
  · have e1 : (i + 1) / sN A 1 0 = i / sN A 1 0 + 1 := by
      rw [Nat.div_eq_iff hP]
      have := Nat.div_add_mod i (sN A 1 0)
      rw [Nat.mul_comm] at this
      rw [Nat.add_mul, Nat.one_mul]
      constructor <;> omega
    have e2 : (i + 1) % sN A 1 0 = 0 := by
      have a := Nat.div_add_mod i (sN A 1 0)
      have b := Nat.div_add_mod (i + 1) (sN A 1 0)
      rw [e1, Nat.mul_add, Nat.mul_one] at b
      omega
    rw [e1, e2]
    have := lf_row hs (b := i / sN A 1 0) (p := i % sN A 1 0 + 1) (q := q) (by omega) (by omega) (3 - (i % sN A 1 0 + 1)) (by omega)
    rw [show 3 * (i / sN A 1 0) + i % sN A 1 0 + 1 = 3 * (i / sN A 1 0) + (i % sN A 1 0 + 1) by omega, ← this]
    congr 1
end DP
