/-- a copy under way: what lies outside stays, and what S names is copied -/
def Cp (o0 o1 : Nat) (I I1 : MI) (S : Nat → Nat → Prop) : Prop := (∀ k, (k < o0 ∨ o0 + 22 ≤ k) → I1 k = I k) ∧ ∀ j i, S j i → I1 (o0 + j) i = I (o1 + j) i
section CP
variable {o0 o1 : Nat} {I I1 I2 : MI} {S : Nat → Nat → Prop}
theorem Cp.u (h : Cp o0 o1 I I1 S) (hd : o1 + 22 ≤ o0 ∨ o0 + 22 ≤ o1) {j i : Nat} (hj : j < 22) (e : I2 = u2 I1 (o0 + j) i (I1 (o1 + j) i)) : Cp o0 o1 I I2 (fun a b => (a = j ∧ b = i) ∨ S a b) := by
  refine ⟨fun k hk => by rw [e, u2_ne (by omega)]; exact h.1 k hk, fun a b hab => ?_⟩
  rw [e, u2_at]
  by_cases hc : a = j ∧ b = i
  · rw [if_pos ⟨by omega, hc.2⟩, hc.1, hc.2, h.1 _ (by omega)]
  · rw [if_neg (fun z => hc ⟨by omega, z.2⟩)]
    rcases hab with hab | hab
    · exact absurd hab hc
    · exact h.2 a b hab
theorem Cp.r (h : Cp o0 o1 I I1 S) (hd : o1 + 22 ≤ o0 ∨ o0 + 22 ≤ o1) {j : Nat} {n : Int32} {m : Nat} (hn : n = nI m) (hm : m < 2 ^ 31) (hj : j < 22) (e : I2 = ur I1 (o0 + j) (va_cpy (I1 (o1 + j)) (I1 (o0 + j)) (ix 0) (ix 0) (ix n))) : Cp o0 o1 I I2 (fun a b => (a = j ∧ b < m) ∨ S a b) := by
  rw [hn, ix_nI hm, show ix 0 = 0 from by decide] at e
  refine ⟨fun k hk => by rw [e, ur_ne (by omega)]; exact h.1 k hk, fun a b hab => ?_⟩
  by_cases hc : a = j
  · subst hc
    rw [e, ur_self]
    by_cases hb : b < m
    · rw [pk_cpy_in (Nat.zero_le _) (by omega), h.1 _ (by omega)]
      congr 1
      omega
    · rw [pk_cpy_out (Or.inr (by omega))]
      rcases hab with hab | hab
      · exact absurd hab.2 hb
      · exact h.2 a b hab
  · rw [e, ur_ne (by omega)]
    rcases hab with hab | hab
    · exact absurd hab.1 hc
    · exact h.2 a b hab
theorem Cp.s (h : Cp o0 o1 I I1 S) {j : Nat} {v : Int32} (hj : j < 22) (hS : ∀ b, ¬ S j b) (e : I2 = u2 I1 (o0 + j) 1 v) : Cp o0 o1 I I2 S := by
  refine ⟨fun k hk => by rw [e, u2_ne (by omega)]; exact h.1 k hk, fun a b hab => ?_⟩
  have : a ≠ j := fun z => hS b (z ▸ hab)
  rw [e, u2_ne (by omega)]
  exact h.2 a b hab
end CP
theorem c_copyFrom {o0 o1 : Nat} {I : MI} {L : ML} {A : St} {Q : MI → ML → Prop} (hd : o1 + 22 ≤ o0 ∨ o0 + 22 ≤ o1) (h : CR o1 I L A) (hQ : ∀ I' L', CR o0 I' L' A → Fr o0 I L I' L' → Q I' L') : wp_X2_copyFrom o0 o1 I L Q := by
  unfold wp_X2_copyFrom wp_X1_copyFrom
  intro I1 e1 I2 e2 I3 e3 I4 e4 I5 e5 I6 e6 I7 e7 I8 e8 I9 e9 I10 e10 I11 e11 I12 e12 I13 e13 J1 d1 J2 d2 J3 d3 J4 d4
  have c0 : Cp o0 o1 I I (fun _ _ => False) := ⟨fun _ _ => rfl, fun _ _ z => absurd z (by simp)⟩
  have c1 := c0.u hd (j := 1) (by omega) e1
  have c2 := c1.u hd (j := 1) (by omega) e2
  have c3 := c2.u hd (j := 1) (by omega) e3
  have c4 := c3.u hd (j := 1) (by omega) e4
  have c5 := c4.u hd (j := 1) (by omega) e5
  have c6 := c5.r hd (j := 2) (m := 4) rfl (by omega) (by omega) e6
  have c7 := c6.r hd (j := 3) (m := 4) rfl (by omega) (by omega) e7
  have c8 := c7.r hd (j := 4) (m := 4) rfl (by omega) (by omega) e8
  have c9 := c8.r hd (j := 5) (m := 4) rfl (by omega) (by omega) e9
  have c10 := c9.r hd (j := 6) (m := 4) rfl (by omega) (by omega) e10
  have c11 := c10.r hd (j := 7) (m := 16) rfl (by omega) (by omega) e11
  have c12 := c11.r hd (j := 8) (m := 16) rfl (by omega) (by omega) e12
  have c13 := c12.r hd (j := 9) (m := 16) rfl (by omega) (by omega) e13
  have a1 := c13.r hd (j := 10) (m := 16) rfl (by omega) (by omega) d1
  have a2 := a1.r hd (j := 11) (m := 16) rfl (by omega) (by omega) d2
  have a3 := a2.r hd (j := 12) (m := 16) rfl (by omega) (by omega) d3
  have a4 := a3.r hd (j := 13) (m := 4) rfl (by omega) (by omega) d4
  clear c0 c1 c2 c3 c4 c5 c6 c7 c8 c9 c10 c11 c12 c13 a1 a2 a3
  refine r_copyFrom (h.Y.fr (by rw [a4.1 _ (by omega)]) rfl) h.Y.2.1 (by omega) (by omega) (fun K1 L1 g1 l1 r1 => ?_)
  have b1 := a4.s (j := 14) (by omega) (fun b z => by simp at z) g1
  refine r_copyFrom (h.W.fr (by rw [b1.1 _ (by omega)]) (l1 _ (by omega))) h.W.2.1 (by omega) (by omega) (fun K2 L2 g2 l2 r2 => ?_)
  have b2 := b1.s (j := 16) (by omega) (fun b z => by simp at z) g2
  refine r_copyFrom (h.C.fr (by rw [b2.1 _ (by omega)]) ((l2 _ (by omega)).trans (l1 _ (by omega)))) h.C.2.1 (by omega) (by omega) (fun K3 L3 g3 l3 r3 => ?_)
  have b3 := b2.s (j := 18) (by omega) (fun b z => by simp at z) g3
  refine r_copyFrom (h.Q.fr (by rw [b3.1 _ (by omega)]) (((l3 _ (by omega)).trans (l2 _ (by omega))).trans (l1 _ (by omega)))) h.Q.2.1 (by omega) (by omega) (fun K4 L4 g4 l4 r4 => ?_)
  have b4 := b3.s (j := 20) (by omega) (fun b z => by simp at z) g4
  clear b1 b2 b3 a4
  intro M9 m9 M10 m10 M11 m11 M12 m12 M13 m13 M14 m14 M15 m15 M16 m16 M17 m17 M18 m18
  have b5 := b4.u hd (j := 0) (by omega) m9
  have b6 := b5.u hd (j := 0) (by omega) m10
  have b7 := b6.u hd (j := 0) (by omega) m11
  have b8 := b7.u hd (j := 0) (by omega) m12
  have b9 := b8.u hd (j := 0) (by omega) m13
  have b10 := b9.u hd (j := 0) (by omega) m14
  have b11 := b10.u hd (j := 0) (by omega) m15
  have b12 := b11.u hd (j := 0) (by omega) m16
  have b13 := b12.u hd (j := 0) (by omega) m17
  have b14 := b13.u hd (j := 0) (by omega) m18
  clear b4 b5 b6 b7 b8 b9 b10 b11 b12 b13
  have rows : ∀ a, a ≠ o0 → M18 a = K4 a := by
    intro a ha
    rw [m18, u2_ne ha, m17, u2_ne ha, m16, u2_ne ha, m15, u2_ne ha, m14, u2_ne ha, m13, u2_ne ha, m12, u2_ne ha, m11, u2_ne ha, m10, u2_ne ha, m9, u2_ne ha]
  have hdisj : ∀ a, a < 22 → ∀ b, b < 22 → o1 + a ≠ o0 + b := by intro a ha b hb; omega
  refine hQ M18 L4 ⟨fun j i hn => ?_, fun i hi => ?_, fun i h1 h2 => ?_, ?_, ?_, ?_, ?_⟩ (fun k hk => ⟨b14.1 k hk, ?_⟩)
  · rw [← h.1 j i hn]
    refine b14.2 j i ?_
    rcases hn with ⟨rfl, hn⟩ | ⟨rfl, hn⟩ | ⟨h1, h2, hn⟩ | ⟨h1, h2, hn⟩ | ⟨rfl, hn⟩
    · simp; omega
    · simp; omega
    · obtain rfl | rfl | rfl | rfl | rfl : j = 2 ∨ j = 3 ∨ j = 4 ∨ j = 5 ∨ j = 6 := by omega
      all_goals (simp; omega)
    · obtain rfl | rfl | rfl | rfl | rfl : j = 7 ∨ j = 8 ∨ j = 9 ∨ j = 10 ∨ j = 11 := by omega
      all_goals (simp; omega)
    · simp; omega
  · rw [← h.2.1 i hi]
    refine b14.2 12 i ?_
    simp
    omega
  · rw [← h.2.2.1 i h1 h2]
    refine b14.2 0 i ?_
    simp
    omega
  · refine r1.fr ?_ ?_
    · rw [rows _ (by omega), g4, u2_ne (by omega), g3, u2_ne (by omega), g2, u2_ne (by omega)]
    · rw [l4 _ (by omega), l3 _ (by omega), l2 _ (by omega)]
  · refine r2.fr ?_ ?_
    · rw [rows _ (by omega), g4, u2_ne (by omega), g3, u2_ne (by omega)]
    · rw [l4 _ (by omega), l3 _ (by omega)]
  · refine r3.fr ?_ ?_
    · rw [rows _ (by omega), g4, u2_ne (by omega)]
    · rw [l4 _ (by omega)]
  · refine r4.fr ?_ rfl
    rw [rows _ (by omega)]
  · rw [l4 _ (by omega), l3 _ (by omega), l2 _ (by omega), l1 _ (by omega)]
/-- the plan of the Play at o -/
def PR (p : Nat) (I : MI) (A : St) : Prop := ∀ j i, nd (j + 1) i → j ≤ 8 → I (p + j) i = nI (sN A (j + 1) i)
theorem CR.pr {o : Nat} {I : MI} {L : ML} {A : St} (h : CR o I L A) : PR (o + 1) I A := fun j i hn hj => by
  rw [show o + 1 + j = o + (j + 1) by omega]
  exact h.1 _ _ hn
theorem c_planCopy {p0 p1 : Nat} {I : MI} {A : St} {Q : MI → Prop} (hd : p1 + 9 ≤ p0 ∨ p0 + 9 ≤ p1) (h : PR p1 I A) (hQ : ∀ I', PR p0 I' A → (∀ k, (k < p0 ∨ p0 + 9 ≤ k) → I' k = I k) → Q I') : wp_X1_copyFrom p0 p1 I Q := by
  unfold wp_X1_copyFrom
  intro I1 e1 I2 e2 I3 e3 I4 e4 I5 e5 I6 e6 I7 e7 I8 e8 I9 e9 I10 e10 I11 e11 I12 e12 I13 e13
  rw [show ix 0 = 0 from by decide, show ix 4 = 4 from by decide] at e6 e7 e8 e9 e10
  rw [show ix 0 = 0 from by decide, show ix 16 = 16 from by decide] at e11 e12 e13
  have q : ∀ a b, a < 9 → b < 9 → ¬ p1 + a = p0 + b := fun a b _ _ => by omega
  have q0 : ∀ b, b < 9 → ¬ p1 = p0 + b := fun b _ => by omega
  have q1 : ∀ a, a < 9 → ¬ p1 + a = p0 := fun b _ => by omega
  have q2 : ¬ p1 = p0 := by omega
  have ur_at : ∀ (f : MI) (k : Nat) (g : Nat → Int32) (a : Nat), ur f k g a = if a = k then g else f a := fun _ _ _ _ => rfl
  refine hQ I13 (fun j i hn hj => ?_) (fun k hk => ?_)
  · rw [← h j i hn hj]
    rcases hn with hn | ⟨hj0, hn⟩ | ⟨h1, h2, hn⟩ | ⟨h1, h2, hn⟩ | hn
    · omega
    · have : j = 0 := by omega
      subst this
      obtain rfl | rfl | rfl | rfl | rfl : i = 0 ∨ i = 1 ∨ i = 2 ∨ i = 3 ∨ i = 4 := by omega
      all_goals (simp [e1, e2, e3, e4, e5, e6, e7, e8, e9, e10, e11, e12, e13, u2_at, ur_at, q2])
    · obtain rfl | rfl | rfl | rfl | rfl : j = 1 ∨ j = 2 ∨ j = 3 ∨ j = 4 ∨ j = 5 := by omega
      all_goals (simp [e1, e2, e3, e4, e5, e6, e7, e8, e9, e10, e11, e12, e13, u2_at, ur_at, q, q0, q1, q2, va_cpy, hn])
    · obtain rfl | rfl | rfl : j = 6 ∨ j = 7 ∨ j = 8 := by omega
      all_goals (simp [e1, e2, e3, e4, e5, e6, e7, e8, e9, e10, e11, e12, e13, u2_at, ur_at, q, q0, q1, q2, va_cpy, hn])
    · omega
  · rw [e13, ur_ne (by omega), e12, ur_ne (by omega), e11, ur_ne (by omega), e10, ur_ne (by omega), e9, ur_ne (by omega), e8, ur_ne (by omega), e7, ur_ne (by omega), e6, ur_ne (by omega), e5, u2_ne (by omega), e4, u2_ne (by omega), e3, u2_ne (by omega), e2, u2_ne (by omega), e1, u2_ne (by omega)]
-- it begins anew
def anew (A : St) : St := (fun j i => if j = 10 then A.1 9 i else if j = 11 then 0 else if j = 13 then A.1 5 i else if j = 0 then 0 else A.1 j i, fun _ _ => 0, [], [], [], [])
theorem rowIs.nil {I : MI} {L : ML} {r N : Nat} (h : I r 1 = 0) (hN : N < 2 ^ 31) : rowIs I L r N [] := ⟨h, Nat.zero_le _, hN, fun i x hx => by cases hx⟩
theorem c_beginAnew {o : Nat} {I : MI} {L : ML} {A : St} {Q : MI → Prop} (h : PR (o + 1) I A) (hQ : ∀ I', CR o I' L (anew A) → Fr o I L I' L → Q I') : wp_X2_beginAnew o I Q := by
  have k2 : ∀ (J : MI) (kf : MI → Prop) (n i : Nat) (K : MI), i + n = 4 → (∀ k, k < i → K (o + 13) k = J (o + 5) k) → (∀ a, a ≠ o + 13 → K a = J a) → (∀ K', (∀ k, k < 4 → K' (o + 13) k = J (o + 5) k) → (∀ a, a ≠ o + 13 → K' a = J a) → kf K') → lp_X2_beginAnew_45 o kf (n + 1) (nI i) K := by
    intro J kf n
    induction n with
    | zero =>
      intro i K hi h1 h2 hk
      have : i = 4 := by omega
      subst this
      unfold lp_X2_beginAnew_45
      exact ⟨fun _ => hk K h1 h2, fun z => absurd (by decide) z⟩
    | succ n ih =>
      intro i K hi h1 h2 hk
      unfold lp_X2_beginAnew_45
      refine ⟨fun z => absurd z (nI_ge (b := 4) (by omega) (by omega)), fun _ => ⟨vp_in_nI (by omega) (by omega), vp_in_nI (by omega) (by omega), fun K' e => ?_⟩⟩
      rw [ix_nI (by omega)] at e
      rw [nI_1]
      refine ih (i + 1) K' (by omega) (fun k hk2 => ?_) (fun a ha => by rw [e, u2_ne ha]; exact h2 a ha) hk
      rw [e, u2_at]
      by_cases hki : k = i
      · rw [if_pos ⟨rfl, hki⟩, hki, h2 _ (by omega)]
      · rw [if_neg (fun z => hki z.2)]
        exact h1 k (by omega)
  have k1 : ∀ (J : MI) (kf : MI → Prop) (n i : Nat) (K : MI), i + n = 16 → (∀ k, k < i → K (o + 10) k = J (o + 9) k ∧ K (o + 11) k = 0 ∧ K (o + 12) k = 0) → (∀ a, a ≠ o + 10 → a ≠ o + 11 → a ≠ o + 12 → K a = J a) → (∀ K', (∀ k, k < 16 → K' (o + 10) k = J (o + 9) k ∧ K' (o + 11) k = 0 ∧ K' (o + 12) k = 0) → (∀ a, a ≠ o + 10 → a ≠ o + 11 → a ≠ o + 12 → K' a = J a) → kf K') → lp_X2_beginAnew_2 o kf (n + 1) (nI i) K := by
    intro J kf n
    induction n with
    | zero =>
      intro i K hi h1 h2 hk
      have : i = 16 := by omega
      subst this
      unfold lp_X2_beginAnew_2
      exact ⟨fun _ => hk K h1 h2, fun z => absurd (by decide) z⟩
    | succ n ih =>
      intro i K hi h1 h2 hk
      unfold lp_X2_beginAnew_2
      have hin : vp_in (nI i) 16 := vp_in_nI (by omega) (by omega)
      refine ⟨fun z => absurd z (nI_ge (b := 16) (by omega) (by omega)), fun _ => ⟨hin, hin, fun K1 e1 => ⟨hin, fun K2 e2 => ⟨hin, fun K3 e3 => ?_⟩⟩⟩⟩
      rw [ix_nI (by omega)] at e1 e2 e3
      rw [nI_1]
      refine ih (i + 1) K3 (by omega) (fun k hk2 => ?_) (fun a h10 h11 h12 => by rw [e3, u2_ne h12, e2, u2_ne h11, e1, u2_ne h10]; exact h2 a h10 h11 h12) hk
      by_cases hki : k = i
      · subst hki
        refine ⟨?_, ?_, ?_⟩
        · rw [e3, u2_ne (by omega), e2, u2_ne (by omega), e1, u2_s, h2 _ (by omega) (by omega) (by omega)]
        · rw [e3, u2_ne (by omega), e2, u2_s]
        · rw [e3, u2_s]
      · obtain ⟨g1, g2, g3⟩ := h1 k (by omega)
        refine ⟨?_, ?_, ?_⟩
        · rw [e3, u2_ne (by omega), e2, u2_ne (by omega), e1, u2_n2 hki]; exact g1
        · rw [e3, u2_ne (by omega), e2, u2_n2 hki, e1, u2_ne (by omega)]; exact g2
        · rw [e3, u2_n2 hki, e2, u2_ne (by omega), e1, u2_ne (by omega)]; exact g3
  unfold wp_X2_beginAnew
  refine ⟨17, ?_⟩
  rw [← nI_0]
  refine k1 I _ 16 0 I rfl (fun k hk => absurd hk (by omega)) (fun _ _ _ _ => rfl) (fun K g1 g2 => ⟨5, ?_⟩)
  refine k2 K _ 4 0 K rfl (fun k hk => absurd hk (by omega)) (fun _ _ => rfl) (fun K2 g3 g4 => ?_)
  intro M1 m1 M2 m2 M3 m3 M4 m4 M9 m9 M10 m10 M11 m11 M12 m12 M13 m13 M14 m14 M15 m15 M16 m16 M17 m17 M18 m18
  have rows : ∀ a, a ≠ o → M18 a = M4 a := by
    intro a ha
    rw [m18, u2_ne ha, m17, u2_ne ha, m16, u2_ne ha, m15, u2_ne ha, m14, u2_ne ha, m13, u2_ne ha, m12, u2_ne ha, m11, u2_ne ha, m10, u2_ne ha, m9, u2_ne ha]
  have low : ∀ a, a ≠ o → a ≠ o + 14 → a ≠ o + 16 → a ≠ o + 18 → a ≠ o + 20 → M18 a = K2 a := by
    intro a h0 h14 h16 h18 h20
    rw [rows a h0, m4, u2_ne h20, m3, u2_ne h18, m2, u2_ne h16, m1, u2_ne h14]
  have plan : ∀ j i, nd (j + 1) i → j ≤ 8 → M18 (o + 1 + j) i = nI (sN A (j + 1) i) := by
    intro j i hn hj
    rw [low _ (by omega) (by omega) (by omega) (by omega) (by omega), g4 _ (by omega), g2 _ (by omega) (by omega) (by omega)]
    exact h j i hn hj
  have ob : ∀ i, 9 ≤ i → i ≤ 18 → M18 o i = 0 := by
    intro i h1 h2
    obtain rfl | rfl | rfl | rfl | rfl | rfl | rfl | rfl | rfl | rfl : i = 9 ∨ i = 10 ∨ i = 11 ∨ i = 12 ∨ i = 13 ∨ i = 14 ∨ i = 15 ∨ i = 16 ∨ i = 17 ∨ i = 18 := by omega
    all_goals (simp [m18, m17, m16, m15, m14, m13, m12, m11, m10, m9, u2_at]; rfl)
  refine hQ M18 ⟨fun j i hn => ?_, fun i hi => ?_, fun i h1 h2 => ob i (by omega) h2, rowIs.nil ?_ (by omega), rowIs.nil ?_ (by omega), rowIs.nil ?_ (by omega), rowIs.nil ?_ (by omega)⟩ (fun k hk => ⟨?_, rfl⟩)
  · show M18 (o + j) i = nI (if j = 10 then A.1 9 i else if j = 11 then 0 else if j = 13 then A.1 5 i else if j = 0 then 0 else A.1 j i)
    by_cases h10 : j = 10
    · subst h10
      have hi : i < 16 := by unfold nd at hn; omega
      rw [if_pos rfl, low _ (by omega) (by omega) (by omega) (by omega) (by omega), g4 _ (by omega), (g1 i hi).1]
      exact h 8 i (nd9 hi) (by omega)
    · rw [if_neg h10]
      by_cases h11 : j = 11
      · subst h11
        have hi : i < 16 := by unfold nd at hn; omega
        rw [if_pos rfl, low _ (by omega) (by omega) (by omega) (by omega) (by omega), g4 _ (by omega), (g1 i hi).2.1]
        rfl
      · rw [if_neg h11]
        by_cases h13 : j = 13
        · subst h13
          have hi : i < 4 := by unfold nd at hn; omega
          rw [if_pos rfl, low _ (by omega) (by omega) (by omega) (by omega) (by omega), g3 i hi, g2 _ (by omega) (by omega) (by omega)]
          exact h 4 i (ndp (by omega) (by omega) hi) (by omega)
        · rw [if_neg h13]
          by_cases h0 : j = 0
          · subst h0
            rw [if_pos rfl]
            exact ob i (by unfold nd at hn; omega) (by unfold nd at hn; omega)
          · rw [if_neg h0]
            obtain ⟨q, rfl⟩ : ∃ q, j = q + 1 := ⟨j - 1, by omega⟩
            rw [show o + (q + 1) = o + 1 + q by omega]
            exact plan q i hn (by unfold nd at hn; omega)
  · show M18 (o + 12) i = 0
    rw [low _ (by omega) (by omega) (by omega) (by omega) (by omega), g4 _ (by omega), (g1 i hi).2.2]
  · rw [rows _ (by omega), m4, u2_ne (by omega), m3, u2_ne (by omega), m2, u2_ne (by omega), m1, u2_s]; rfl
  · rw [rows _ (by omega), m4, u2_ne (by omega), m3, u2_ne (by omega), m2, u2_s]; rfl
  · rw [rows _ (by omega), m4, u2_ne (by omega), m3, u2_s]; rfl
  · rw [rows _ (by omega), m4, u2_s]; rfl
  · rw [low k (by omega) (by omega) (by omega) (by omega) (by omega), g4 k (by omega), g2 k (by omega) (by omega) (by omega)]
