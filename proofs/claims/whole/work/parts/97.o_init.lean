/-! how it begins -/
/-- all is naught but what may be the benches -/
def ZI (I : MI) : Prop := ∀ q s, I q s = 0 ∨ (s = 2 ∧ (q = 3 ∨ q = 25 ∨ 48 ≤ q))
theorem ZI.xr {I : MI} {q : Nat} (h : ZI I) : ZI (ur I q (fun _ => 0)) := by
  intro a s
  by_cases ha : a = q
  · subst ha; rw [ur_self]; exact Or.inl rfl
  · rw [ur_ne ha]; exact h a s
theorem ZI.x2 {I : MI} {q i : Nat} (h : ZI I) : ZI (u2 I q i 0) := by
  intro a s
  rw [u2_at]
  split
  · exact Or.inl rfl
  · exact h a s
theorem ZI.xb {I : MI} {q : Nat} (h : ZI I) (hq : q = 3 ∨ q = 25 ∨ 48 ≤ q) : ZI (u2 I q 2 1) := by
  intro a s
  rw [u2_at]
  split
  · rename_i g
    exact Or.inr ⟨g.2, by rw [g.1]; exact hq⟩
  · exact h a s
def st1 (o q i : Nat) (R : MR) : MR := u2 (ur R q (fun _ => none)) o i (some q)
def F1 (p : Nat) (R : MR) : MR := st1 p (p + 8) 12 (st1 p (p + 7) 11 (st1 p (p + 6) 10 (st1 p (p + 5) 9 (st1 p (p + 4) 8 (st1 p (p + 3) 7 (st1 p (p + 2) 6 (st1 p (p + 1) 5 R)))))))
def F4 (r : Nat) (R : MR) : MR := st1 r (r + 1) 0 R
def F2 (o : Nat) (R : MR) : MR :=
  u2 (F4 (o + 20) (ur (u2 (F4 (o + 18) (ur (u2 (F4 (o + 16) (ur (u2 (F4 (o + 14) (ur (st1 o (o + 13) 4 (st1 o (o + 12) 3 (st1 o (o + 11) 2 (st1 o (o + 10) 1 (u2 (F1 (o + 1) (ur R (o + 1) (fun _ => none))) o 0 (some (o + 1))))))) (o + 14) (fun _ => none))) o 5 (some (o + 14))) (o + 16) (fun _ => none))) o 6 (some (o + 16))) (o + 18) (fun _ => none))) o 7 (some (o + 18))) (o + 20) (fun _ => none))) o 8 (some (o + 20))
section INIT
variable {I : MI} {L : ML} {R : MR} {Q : MI → ML → MR → Prop}
theorem i_X1 {p : Nat} (hp : p = 3 ∨ p = 25 ∨ 48 ≤ p) (hZ : ZI I) (hQ : ∀ I' L', ZI I' → I' p 2 = 1 → (∀ q, q < p ∨ p + 9 ≤ q → I' q = I q) → Q I' L' (F1 p R)) : wp_X1_init p I L R Q := by
  unfold wp_X1_init
  intro I1 e1 I2 e2 I3 e3 I4 e4 I5 e5
  intro I6 L7 R8 f6 g7 h8 R9 k9 I10 L11 R12 f10 g11 h12 R13 k13 I14 L15 R16 f14 g15 h16 R17 k17 I18 L19 R20 f18 g19 h20 R21 k21 I22 L23 R24 f22 g23 h24 R25 k25 I26 L27 R28 f26 g27 h28 R29 k29 I30 L31 R32 f30 g31 h32 R33 k33 I34 L35 R36 f34 g35 h36 R37 k37
  subst h8 k9 h12 k13 h16 k17 h20 k21 h24 k25 h28 k29 h32 k33 h36 k37
  refine hQ I34 L35 ?_ ?_ ?_
  · rw [f34, f30, f26, f22, f18, f14, f10, f6, e5, e4, e3, e2, e1]
    exact (hZ.x2.x2.xb hp).x2.x2.xr.xr.xr.xr.xr.xr.xr.xr
  · rw [f34, ur_ne (by omega), f30, ur_ne (by omega), f26, ur_ne (by omega), f22, ur_ne (by omega), f18, ur_ne (by omega), f14, ur_ne (by omega), f10, ur_ne (by omega), f6, ur_ne (by omega), e5, u2_n2 (by omega), e4, u2_n2 (by omega), e3, u2_s]
  · intro q hq
    rw [f34, ur_ne (by omega), f30, ur_ne (by omega), f26, ur_ne (by omega), f22, ur_ne (by omega), f18, ur_ne (by omega), f14, ur_ne (by omega), f10, ur_ne (by omega), f6, ur_ne (by omega), e5, u2_ne (by omega), e4, u2_ne (by omega), e3, u2_ne (by omega), e2, u2_ne (by omega), e1, u2_ne (by omega)]
theorem i_X4 {r N : Nat} {v : Int32} (h1 : ¬ (if v < 0 then 0 else v) < 0) (h2 : (if v < 0 then 0 else v).toNatClampNeg = N) (h3 : N * 8 ≤ 536870912) (hZ : ZI I) (hQ : ∀ I' L', ZI I' → (∀ q, q < r ∨ r + 2 ≤ q → I' q = I q) → Q I' L' (F4 r R)) : wp_X4_init r N I L R v Q := by
  unfold wp_X4_init
  intro I1 e1
  refine ⟨h1, h2, h3, ?_⟩
  intro I2 L3 R4 e2 g3 h4 R8 k8
  subst h4 k8
  refine hQ I2 L3 ?_ ?_
  · rw [e2, e1]; exact hZ.x2.xr
  · intro q hq
    rw [e2, ur_ne (by omega), e1, u2_ne (by omega)]
theorem i_X2 {o : Nat} (ho : o = 2 ∨ o = 24 ∨ 47 ≤ o) (hZ : ZI I) (hQ : ∀ I' L', ZI I' → I' (o + 1) 2 = 1 → (∀ q, q < o ∨ o + 22 ≤ q → I' q = I q) → Q I' L' (F2 o R)) : wp_X2_init o I L R Q := by
  unfold wp_X2_init
  intro I1 L2 R3 e1 g2 h3
  have z1 : ZI I1 := by rw [e1]; exact hZ.xr
  have f1 : ∀ q, q < o ∨ o + 22 ≤ q → I1 q = I q := fun q hq => by rw [e1, ur_ne (by omega)]
  refine i_X1 (by omega) z1 (fun I4 L5 z4 b4 f4 => ?_)
  intro R7 k7 I8 L9 R10 e8 g9 h10 R11 k11 I12 L13 R14 e12 g13 h14 R15 k15 I16 L17 R18 e16 g17 h18 R19 k19 I20 L21 R22 e20 g21 h22 R23 k23 I24 L25 R26 e24 g25 h26
  have z24 : ZI I24 := by rw [e24, e20, e16, e12, e8]; exact z4.xr.xr.xr.xr.xr
  have b24 : I24 (o + 1) 2 = 1 := by rw [e24, ur_ne (by omega), e20, ur_ne (by omega), e16, ur_ne (by omega), e12, ur_ne (by omega), e8, ur_ne (by omega)]; exact b4
  have f24 : ∀ q, q < o ∨ o + 22 ≤ q → I24 q = I q := fun q hq => by
    rw [e24, ur_ne (by omega), e20, ur_ne (by omega), e16, ur_ne (by omega), e12, ur_ne (by omega), e8, ur_ne (by omega), f4 q (by omega)]
    exact f1 q hq
  refine i_X4 (by decide) (by decide) (by decide) z24 (fun I27 L28 z27 f27 => ?_)
  intro R30 k30 I31 L32 R33 e31 g32 h33
  refine i_X4 (by decide) (by decide) (by decide) (by rw [e31]; exact z27.xr) (fun I34 L35 z34 f34 => ?_)
  intro R37 k37 I38 L39 R40 e38 g39 h40
  refine i_X4 (by decide) (by decide) (by decide) (by rw [e38]; exact z34.xr) (fun I41 L42 z41 f41 => ?_)
  intro R44 k44 I45 L46 R47 e45 g46 h47
  refine i_X4 (by decide) (by decide) (by decide) (by rw [e45]; exact z41.xr) (fun I48 L49 z48 f48 => ?_)
  intro R51 k51 I52 e52 I53 e53 I54 e54 I55 e55 I56 e56 I57 e57 I58 e58 I59 e59 I60 e60 I61 e61
  subst h3 k7 h10 k11 h14 k15 h18 k19 h22 k23 h26 k30 h33 k37 h40 k44 h47 k51
  have c61 : ∀ q, q ≠ o → I61 q = I48 q := fun q hq => by rw [e61, u2_ne hq, e60, u2_ne hq, e59, u2_ne hq, e58, u2_ne hq, e57, u2_ne hq, e56, u2_ne hq, e55, u2_ne hq, e54, u2_ne hq, e53, u2_ne hq, e52, u2_ne hq]
  have c48 : ∀ q, q < o + 14 ∨ o + 22 ≤ q → I48 q = I24 q := fun q hq => by
    rw [f48 q (by omega), e45, ur_ne (by omega), f41 q (by omega), e38, ur_ne (by omega), f34 q (by omega), e31, ur_ne (by omega), f27 q (by omega)]
  refine hQ I61 L49 ?_ ?_ (fun q hq => ?_)
  · rw [e61, e60, e59, e58, e57, e56, e55, e54, e53, e52]
    exact z48.x2.x2.x2.x2.x2.x2.x2.x2.x2.x2
  · rw [c61 _ (by omega), c48 _ (by omega)]; exact b24
  · rw [c61 _ (by omega), c48 _ (by omega)]; exact f24 q hq
end INIT
