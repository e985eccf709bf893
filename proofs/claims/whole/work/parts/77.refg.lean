/-! the reference: copies, acts remembered and undone, the start, what is told -/
theorem RR.cp {I I' : MI} {A : St} {Y : List (Nat × Nat × Nat × Nat)} (h : RR I A Y) (e : ∀ s, s < 2212 → I' 337 s = I 337 s) : RR I' A Y := by
  obtain ⟨a1, ⟨a2, a3, a4, a5⟩, a6, a7, a8, a9, a10, a11, a12, a13, a14⟩ := h
  exact ⟨a1.of (fun s h1 _ => e s (by omega)), ⟨by rw [e _ (by omega)]; exact a2, by rw [e _ (by omega)]; exact a3, by rw [e _ (by omega)]; exact a4, by rw [e _ (by omega)]; exact a5⟩, a6.fr (fun s _ _ => e s (by omega)), a7.fr (fun s _ _ => e s (by omega)), a8.fr (fun s _ _ => e s (by omega)), a9.fr (fun s _ _ => e s (by omega)), a10, a11, a12, a13, a14⟩
theorem r_putAside {I : MI} {Q : MI → Prop} (hQ : ∀ I', (∀ s, s < 2212 → I' 338 s = I 337 s) → (∀ a, a ≠ 338 → I' a = I a) → Q I') : wp_X10_putAside I Q := by
  have key : ∀ (n i : Nat) (J : MI), i + n = 2212 → (∀ s, s < i → J 338 s = I 337 s) → (∀ a, a ≠ 338 → J a = I a) → lp_X10_putAside_2 Q (n + 1) (nI i) J := by
    intro n
    induction n with
    | zero =>
      intro i J hi h1 h2
      unfold lp_X10_putAside_2
      refine ⟨fun _ => hQ J (fun s hs => h1 s (by omega)) h2, fun z => absurd ?_ z⟩
      rw [show (2212 : Int32) = nI 2212 from rfl]
      exact nI_le (by omega) (by omega)
    | succ n ih =>
      intro i J hi h1 h2
      unfold lp_X10_putAside_2
      rw [ix_nI (by omega), nI_1, show (2212 : Int32) = nI 2212 from rfl]
      refine ⟨fun z => absurd z (nI_ge (by omega) (by omega)), fun _ => ⟨vp_in_nI (by omega) (by omega), vp_in_nI (by omega) (by omega), fun I4 e4 => ?_⟩⟩
      refine ih (i + 1) I4 (by omega) (fun s hs => ?_) (fun a ha => by rw [e4, u2_ne ha]; exact h2 a ha)
      rw [e4, u2_at]
      by_cases hsi : s = i
      · rw [if_pos ⟨rfl, hsi⟩, hsi, h2 337 (by omega)]
      · rw [if_neg (fun g => hsi g.2)]
        exact h1 s (by omega)
  unfold wp_X10_putAside
  refine ⟨2213, ?_⟩
  rw [← nI_0]
  exact key 2212 0 I (by omega) (fun s hs => absurd hs (by omega)) (fun _ _ => rfl)
theorem r_bringBack {I : MI} {Q : MI → Prop} (hQ : ∀ I', (∀ s, s < 2212 → I' 337 s = I 338 s) → (∀ a, a ≠ 337 → I' a = I a) → Q I') : wp_X10_bringBack I Q := by
  have key : ∀ (n i : Nat) (J : MI), i + n = 2212 → (∀ s, s < i → J 337 s = I 338 s) → (∀ a, a ≠ 337 → J a = I a) → lp_X10_bringBack_2 Q (n + 1) (nI i) J := by
    intro n
    induction n with
    | zero =>
      intro i J hi h1 h2
      unfold lp_X10_bringBack_2
      refine ⟨fun _ => hQ J (fun s hs => h1 s (by omega)) h2, fun z => absurd ?_ z⟩
      rw [show (2212 : Int32) = nI 2212 from rfl]
      exact nI_le (by omega) (by omega)
    | succ n ih =>
      intro i J hi h1 h2
      unfold lp_X10_bringBack_2
      rw [ix_nI (by omega), nI_1, show (2212 : Int32) = nI 2212 from rfl]
      refine ⟨fun z => absurd z (nI_ge (by omega) (by omega)), fun _ => ⟨vp_in_nI (by omega) (by omega), vp_in_nI (by omega) (by omega), fun I4 e4 => ?_⟩⟩
      refine ih (i + 1) I4 (by omega) (fun s hs => ?_) (fun a ha => by rw [e4, u2_ne ha]; exact h2 a ha)
      rw [e4, u2_at]
      by_cases hsi : s = i
      · rw [if_pos ⟨rfl, hsi⟩, hsi, h2 338 (by omega)]
      · rw [if_neg (fun g => hsi g.2)]
        exact h1 s (by omega)
  unfold wp_X10_bringBack
  refine ⟨2213, ?_⟩
  rw [← nI_0]
  exact key 2212 0 I (by omega) (fun s hs => absurd hs (by omega)) (fun _ _ => rfl)
/-- the acts that the reference keeps, the latest first -/
def UM (I : MI) (U : List St) : Prop := I 336 4 = nI U.length ∧ U.length ≤ 12 ∧ ∀ (k : Nat) (B : St), U[k]? = some B → ∃ Y, RR (fun _ s => I 339 (2212 * (U.length - 1 - k) + s)) B Y
theorem UM.fr {I I' : MI} {U : List St} (h : UM I U) (h1 : I' 336 4 = I 336 4) (h2 : I' 339 = I 339) : UM I' U := by
  unfold UM at h ⊢
  rw [h1, h2]
  exact h
/-- what an act that is remembered leaves -/
def RU (I I' : MI) : Prop := (∀ a, a ≠ 336 → a ≠ 339 → I' a = I a) ∧ ∀ i, i ≠ 4 → I' 336 i = I 336 i
theorem r_remJ {I : MI} {A : St} {V : List St} {Q : MI → Prop} (h : ∃ Y, RR I A Y) (hu : UM I V) (hl : V.length ≤ 11) (hQ : ∀ I', UM I' (A :: V) → RU I I' → Q I') : jn_X10_remembers_50 I Q := by
  obtain ⟨Y, h⟩ := h
  obtain ⟨hu1, -, hu3⟩ := hu
  have key : ∀ (n i : Nat) (J : MI), i + n = 2212 → (∀ s, s < i → J 339 (2212 * V.length + s) = I 337 s) → (∀ s, s < 2212 * V.length → J 339 s = I 339 s) → (∀ a, a ≠ 339 → J a = I a) → lp_X10_remembers_52 (fun I7 => (∀ I8, I8 = u2 I7 336 4 ((I7 336 4) + 1) → Q I8)) (n + 1) (nI i) J := by
    intro n
    induction n with
    | zero =>
      intro i J hi h1 h2 h3
      unfold lp_X10_remembers_52
      rw [show (2212 : Int32) = nI 2212 from rfl]
      refine ⟨fun _ I8 e8 => ?_, fun z => absurd (nI_le (by omega) (by omega)) z⟩
      have e4 : J 336 4 = nI V.length := by rw [h3 336 (by omega)]; exact hu1
      rw [e4, nI_1] at e8
      have g339 : I8 339 = J 339 := by rw [e8, u2_ne (by omega)]
      refine hQ I8 ⟨by rw [e8, u2_s, List.length_cons], by rw [List.length_cons]; omega, fun k B hk => ?_⟩ ⟨fun a ha hb => by rw [e8, u2_ne ha, h3 a hb], fun j hj => by rw [e8, u2_n2 hj, h3 336 (by omega)]⟩
      rw [List.length_cons]
      cases k with
      | zero =>
        cases hk
        refine ⟨Y, h.cp (fun s hs => ?_)⟩
        show I8 339 (2212 * (V.length + 1 - 1 - 0) + s) = I 337 s
        rw [g339, show V.length + 1 - 1 - 0 = V.length by omega]
        exact h1 s (by omega)
      | succ k =>
        have hk' : V[k]? = some B := by simpa using hk
        have hkl := lt_of_get hk'
        obtain ⟨Z, hz⟩ := hu3 k B hk'
        refine ⟨Z, hz.cp (fun s hs => ?_)⟩
        show I8 339 (2212 * (V.length + 1 - 1 - (k + 1)) + s) = I 339 (2212 * (V.length - 1 - k) + s)
        rw [g339, show V.length + 1 - 1 - (k + 1) = V.length - 1 - k by omega]
        exact h2 _ (by omega)
    | succ n ih =>
      intro i J hi h1 h2 h3
      have e4 : J 336 4 = nI V.length := by rw [h3 336 (by omega)]; exact hu1
      have hz : (2212 : Int32) * nI V.length + nI i = nI (2212 * V.length + i) := by
        rw [show (2212 : Int32) = nI 2212 from rfl, pk_mul, nI_add]
      unfold lp_X10_remembers_52
      rw [e4, hz, show (2212 : Int32) = nI 2212 from rfl, ix_nI (n := 2212 * V.length + i) (by omega), ix_nI (n := i) (by omega), nI_1 i]
      refine ⟨fun z => absurd z (nI_ge (by omega) (by omega)), fun _ => ⟨vp_in_nI (by omega) (by omega), vp_in_nI (by omega) (by omega), fun I5 e5 => ?_⟩⟩
      refine ih (i + 1) I5 (by omega) (fun s hs => ?_) (fun s hs => ?_) (fun a ha => by rw [e5, u2_ne ha]; exact h3 a ha)
      · rw [e5, u2_at]
        by_cases hsi : s = i
        · rw [if_pos ⟨rfl, by rw [hsi]⟩, hsi, h3 337 (by omega)]
        · rw [if_neg (fun g => hsi (by omega))]
          exact h1 s (by omega)
      · rw [e5, u2_n2 (by omega)]
        exact h2 s hs
  unfold jn_X10_remembers_50
  refine ⟨2213, ?_⟩
  rw [← nI_0]
  exact key 2212 0 I (by omega) (fun s hs => absurd hs (by omega)) (fun _ _ => rfl) (fun _ _ => rfl)
theorem r_remembers {I : MI} {A : St} {U : List St} {Q : MI → Prop} (h : ∃ Y, RR I A Y) (hu : UM I U) (hQ : ∀ I', UM I' ((A :: U).take 12) → RU I I' → Q I') : wp_X10_remembers I Q := by
  have hlen := hu.2.1
  have h4 := hu.1
  unfold wp_X10_remembers
  rw [h4]
  by_cases z : U.length = 12
  · refine ⟨fun w => absurd (by rw [z]; rfl) w, fun _ => ⟨24333, ?_⟩⟩
    have ht : (A :: U).take 12 = A :: U.take 11 := rfl
    have key : ∀ (n i : Nat) (J : MI), i + n = 24332 → (∀ s, s < i → J 339 s = I 339 (s + 2212)) → (∀ s, i ≤ s → J 339 s = I 339 s) → (∀ a, a ≠ 339 → J a = I a) → lp_X10_remembers_11 (fun I14 => (∀ I15, I15 = u2 I14 336 4 ((I14 336 4) - 1) → (jn_X10_remembers_50 I15 Q))) (n + 1) (nI i) J := by
      intro n
      induction n with
      | zero =>
        intro i J hi h1 h2 h3
        unfold lp_X10_remembers_11
        rw [show (24332 : Int32) = nI 24332 from rfl]
        refine ⟨fun _ I15 e15 => ?_, fun z => absurd (nI_le (by omega) (by omega)) z⟩
        have g4 : J 336 4 = nI (11 + 1) := by rw [h3 336 (by omega), h4, z]
        rw [g4, nI_pred] at e15
        have g337 : I15 337 = I 337 := by rw [e15, u2_ne (by omega), h3 337 (by omega)]
        have hlt : (U.take 11).length = 11 := by rw [List.length_take, z]; rfl
        have hu2 : UM I15 (U.take 11) := by
          refine ⟨by rw [e15, u2_s, hlt], by omega, fun k B hk => ?_⟩
          have hkl := lt_of_get hk
          rw [List.getElem?_take_of_lt (by omega)] at hk
          obtain ⟨Z, hz⟩ := hu.2.2 k B hk
          refine ⟨Z, hz.cp (fun s hs => ?_)⟩
          show I15 339 (2212 * ((U.take 11).length - 1 - k) + s) = I 339 (2212 * (U.length - 1 - k) + s)
          rw [e15, u2_ne (by omega), h1 _ (by omega)]
          congr 1
          omega
        obtain ⟨Y, h⟩ := h
        refine r_remJ ⟨Y, h.cg g337⟩ hu2 (by omega) (fun I' hU' hR' => hQ I' hU' ⟨fun a ha hb => ?_, fun j hj => ?_⟩)
        · rw [hR'.1 a ha hb, e15, u2_ne ha, h3 a hb]
        · rw [hR'.2 j hj, e15, u2_n2 hj, h3 336 (by omega)]
      | succ n ih =>
        intro i J hi h1 h2 h3
        unfold lp_X10_remembers_11
        rw [show nI i + (2212 : Int32) = nI (i + 2212) from nI_add i 2212, show (24332 : Int32) = nI 24332 from rfl, ix_nI (n := i + 2212) (by omega), ix_nI (n := i) (by omega), nI_1]
        refine ⟨fun z => absurd z (nI_ge (by omega) (by omega)), fun _ => ⟨vp_in_nI (by omega) (by omega), vp_in_nI (by omega) (by omega), fun I12 e12 => ?_⟩⟩
        refine ih (i + 1) I12 (by omega) (fun s hs => ?_) (fun s hs => ?_) (fun a ha => by rw [e12, u2_ne ha]; exact h3 a ha)
        · rw [e12, u2_at]
          by_cases hsi : s = i
          · rw [if_pos ⟨rfl, hsi⟩, hsi]
            exact h2 _ (by omega)
          · rw [if_neg (fun g => hsi g.2)]
            exact h1 s (by omega)
        · rw [e12, u2_n2 (by omega)]
          exact h2 s (by omega)
    rw [← nI_0]
    exact key 24332 0 I (by omega) (fun s hs => absurd hs (by omega)) (fun _ _ => rfl) (fun _ _ => rfl)
  · have ht : (A :: U).take 12 = A :: U := List.take_of_length_le (by rw [List.length_cons]; omega)
    rw [ht] at hQ
    exact ⟨fun _ => r_remJ h hu (by omega) hQ, fun w => absurd ((nI_eq (a := U.length) (b := 12) (by omega) (by omega)).mp w) z⟩
theorem r_undo {I : MI} {U : List St} {Q : Int32 → MI → Prop} (hu : UM I U) (h0 : U = [] → Q (-1) I) (h1 : ∀ A V, U = A :: V → ∀ I', UM I' V → (∃ Y, RR I' A Y) → (∀ a, a ≠ 336 → a ≠ 337 → I' a = I a) → (∀ i, i ≠ 4 → I' 336 i = I 336 i) → Q (nI V.length) I') : wp_X10_undo I Q := by
  have h4 := hu.1
  unfold wp_X10_undo
  rw [h4]
  cases U with
  | nil => exact ⟨fun z => absurd rfl z, fun _ => h0 rfl⟩
  | cons A V =>
    rw [List.length_cons, nI_pred]
    have hlen : V.length + 1 ≤ 12 := hu.2.1
    refine ⟨fun _ I2 e2 => ⟨2213, ?_⟩, fun z => absurd z (nI_ne0 (by omega) (by omega))⟩
    have key : ∀ (n i : Nat) (J : MI), i + n = 2212 → (∀ s, s < i → J 337 s = I 339 (2212 * V.length + s)) → (∀ a, a ≠ 337 → J a = I2 a) → lp_X10_undo_21 Q (n + 1) (nI i) J := by
      intro n
      induction n with
      | zero =>
        intro i J hi g1 g2
        unfold lp_X10_undo_21
        rw [show (2212 : Int32) = nI 2212 from rfl]
        refine ⟨fun _ => ?_, fun z => absurd (nI_le (by omega) (by omega)) z⟩
        have e4 : J 336 4 = nI V.length := by rw [g2 336 (by omega), e2, u2_s]
        have e339 : J 339 = I 339 := by rw [g2 339 (by omega), e2, u2_ne (by omega)]
        rw [e4]
        refine h1 A V rfl J ⟨e4, by omega, fun k B hk => ?_⟩ ?_ (fun a ha hb => by rw [g2 a hb, e2, u2_ne ha]) (fun j hj => by rw [g2 336 (by omega), e2, u2_n2 hj])
        · have hkl := lt_of_get hk
          obtain ⟨Z, hz⟩ := hu.2.2 (k + 1) B (by simpa using hk)
          refine ⟨Z, hz.cp (fun s hs => ?_)⟩
          show J 339 (2212 * (V.length - 1 - k) + s) = I 339 (2212 * ((A :: V).length - 1 - (k + 1)) + s)
          rw [e339, List.length_cons]
          congr 2
          omega
        · obtain ⟨Z, hz⟩ := hu.2.2 0 A rfl
          refine ⟨Z, hz.cp (fun s hs => ?_)⟩
          show J 337 s = I 339 (2212 * ((A :: V).length - 1 - 0) + s)
          rw [g1 s (by omega), List.length_cons]
          congr 1
      | succ n ih =>
        intro i J hi g1 g2
        have e4 : J 336 4 = nI V.length := by rw [g2 336 (by omega), e2, u2_s]
        have hz : (2212 : Int32) * nI V.length + nI i = nI (2212 * V.length + i) := by
          rw [show (2212 : Int32) = nI 2212 from rfl, pk_mul, nI_add]
        unfold lp_X10_undo_21
        rw [e4, hz, show (2212 : Int32) = nI 2212 from rfl, ix_nI (n := 2212 * V.length + i) (by omega), ix_nI (n := i) (by omega), nI_1 i]
        refine ⟨fun z => absurd z (nI_ge (by omega) (by omega)), fun _ => ⟨vp_in_nI (by omega) (by omega), vp_in_nI (by omega) (by omega), fun I6 e6 => ?_⟩⟩
        refine ih (i + 1) I6 (by omega) (fun s hs => ?_) (fun a ha => by rw [e6, u2_ne ha]; exact g2 a ha)
        rw [e6, u2_at]
        by_cases hsi : s = i
        · rw [if_pos ⟨rfl, hsi⟩, hsi, g2 339 (by omega), e2, u2_ne (by omega)]
        · rw [if_neg (fun g => hsi g.2)]
          exact g1 s (by omega)
    rw [← nI_0]
    exact key 2212 0 I2 (by omega) (fun s hs => absurd hs (by omega)) (fun _ _ => rfl)
-- it begins
theorem an1 : ∀ s, s < 92 → (s < 5 ∨ (20 ≤ s ∧ s < 62)) → isT s = false ∧ (iv s).1 ≠ 10 ∧ (iv s).1 ≠ 11 ∧ (iv s).1 ≠ 13 ∧ (iv s).1 ≠ 0 := by decide +kernel
theorem an2 : ∀ s, s < 92 → ((5 ≤ s ∧ s < 14) ∨ 74 ≤ s) → isT s = true ∨ (iv s).1 = 0 ∨ (iv s).1 = 11 := by decide +kernel
theorem an3 : ∀ s, s < 71 → 62 ≤ s → isT s = false ∧ isT (s - 12) = false ∧ (iv s).1 = 10 ∧ (iv (s - 12)).1 = 9 ∧ (iv (s - 12)).2 = (iv s).2 := by decide +kernel
theorem an4 : ∀ s, s < 74 → 71 ≤ s → isT s = false ∧ isT (s - 12) = false ∧ (iv s).1 = 13 ∧ (iv (s - 12)).1 = 5 ∧ (iv (s - 12)).2 = (iv s).2 := by decide +kernel
theorem anew_N {A : St} {j i : Nat} : sN (anew A) j i = if j = 10 then A.1 9 i else if j = 11 then 0 else if j = 13 then A.1 5 i else if j = 0 then 0 else A.1 j i := rfl
theorem anew_RN {f g : Nat → Int32} {A : St} (h : RN f A) (h1 : ∀ s, s < 5 ∨ (20 ≤ s ∧ s < 62) → g s = f s) (h2 : ∀ s, (5 ≤ s ∧ s < 20) ∨ (74 ≤ s ∧ s < 92) → g s = 0) (h3 : ∀ s, 62 ≤ s → s < 74 → g s = f (s - 12)) : RN g (anew A) := by
  intro s hs hs2
  by_cases c1 : s < 5 ∨ (20 ≤ s ∧ s < 62)
  · obtain ⟨b1, b2, b3, b4, b5⟩ := an1 s hs c1
    rw [h1 s c1, h s hs hs2]
    unfold val
    rw [b1]
    show nI (A.1 _ _) = nI (sN (anew A) _ _)
    rw [anew_N, if_neg b2, if_neg b3, if_neg b4, if_neg b5]
  · by_cases c2 : (5 ≤ s ∧ s < 14) ∨ 74 ≤ s
    · rw [h2 s (by omega)]
      unfold val
      rcases an2 s hs c2 with b | b | b
      · rw [b]; rfl
      · cases ht : isT s with
        | true => rfl
        | false =>
          show (0 : Int32) = nI (sN (anew A) _ _)
          rw [anew_N, b]
          rfl
      · cases ht : isT s with
        | true => rfl
        | false =>
          show (0 : Int32) = nI (sN (anew A) _ _)
          rw [anew_N, b]
          rfl
    · rw [h3 s (by omega) (by omega), h (s - 12) (by omega) (by omega)]
      unfold val
      by_cases c3 : s < 71
      · obtain ⟨b1, b2, b3, b4, b5⟩ := an3 s c3 (by omega)
        rw [b1, b2]
        show nI (A.1 _ _) = nI (sN (anew A) _ _)
        rw [anew_N, b3, if_pos rfl, b4, b5]
      · obtain ⟨b1, b2, b3, b4, b5⟩ := an4 s (by omega) (by omega)
        rw [b1, b2]
        show nI (A.1 _ _) = nI (sN (anew A) _ _)
        rw [anew_N, b3, if_neg (by decide), if_neg (by decide), if_pos rfl, b4, b5]
theorem r_starts {I : MI} {A : St} {Q : MI → Prop} (h : RN (I 337) A) (hQ : ∀ I', RR I' (anew A) [] → RF I I' → Q I') : wp_X10_starts I Q := by
  have k4 : ∀ (n i : Nat) (I0 J : MI), i + n = 3 → (∀ s, 71 ≤ s → s < 71 + i → J 337 s = I0 337 (s - 12)) → (∀ s, (s < 71 ∨ 71 + i ≤ s) → J 337 s = I0 337 s) → (∀ a, a ≠ 337 → J a = I0 a) → (∀ I', (∀ s, 71 ≤ s → s < 74 → I' 337 s = I0 337 (s - 12)) → (∀ s, (s < 71 ∨ 74 ≤ s) → I' 337 s = I0 337 s) → RF I0 I' → Q I') → lp_X10_starts_78 Q (n + 1) (nI i) J := by
    intro n
    induction n with
    | zero =>
      intro i I0 J hi h1 h2 h3 hQ
      unfold lp_X10_starts_78
      rw [show (3 : Int32) = nI 3 from rfl]
      exact ⟨fun _ => hQ J (fun s a b => h1 s a (by omega)) (fun s a => h2 s (by omega)) h3, fun z => absurd (nI_le (by omega) (by omega)) z⟩
    | succ n ih =>
      intro i I0 J hi h1 h2 h3 hQ
      unfold lp_X10_starts_78
      rw [show (3 : Int32) = nI 3 from rfl, show (59 : Int32) + nI i = nI (59 + i) from nI_add 59 i, show (71 : Int32) + nI i = nI (71 + i) from nI_add 71 i, ix_nI (by omega), ix_nI (by omega), nI_1]
      refine ⟨fun z => absurd z (nI_ge (by omega) (by omega)), fun _ => ⟨vp_in_nI (by omega) (by omega), vp_in_nI (by omega) (by omega), fun J2 e => ?_⟩⟩
      refine ih (i + 1) I0 J2 (by omega) (fun s a b => ?_) (fun s a => ?_) (fun a ha => by rw [e, u2_ne ha]; exact h3 a ha) hQ
      · rw [e, u2_at]
        by_cases hsi : s = 71 + i
        · rw [if_pos ⟨rfl, hsi⟩, h2 _ (by omega)]
          congr 1
          omega
        · rw [if_neg (fun g => hsi g.2)]
          exact h1 s a (by omega)
      · rw [e, u2_n2 (by omega)]
        exact h2 s (by omega)
  have k3 : ∀ (kf : MI → Prop) (n i : Nat) (I0 J : MI), i + n = 9 → (∀ s, 62 ≤ s → s < 62 + i → J 337 s = I0 337 (s - 12)) → (∀ s, (s < 62 ∨ 62 + i ≤ s) → J 337 s = I0 337 s) → (∀ a, a ≠ 337 → J a = I0 a) → (∀ I', (∀ s, 62 ≤ s → s < 71 → I' 337 s = I0 337 (s - 12)) → (∀ s, (s < 62 ∨ 71 ≤ s) → I' 337 s = I0 337 s) → RF I0 I' → kf I') → lp_X10_starts_46 kf (n + 1) (nI i) J := by
    intro kf n
    induction n with
    | zero =>
      intro i I0 J hi h1 h2 h3 hQ
      unfold lp_X10_starts_46
      rw [show (9 : Int32) = nI 9 from rfl]
      exact ⟨fun _ => hQ J (fun s a b => h1 s a (by omega)) (fun s a => h2 s (by omega)) h3, fun z => absurd (nI_le (by omega) (by omega)) z⟩
    | succ n ih =>
      intro i I0 J hi h1 h2 h3 hQ
      unfold lp_X10_starts_46
      rw [show (9 : Int32) = nI 9 from rfl, show (50 : Int32) + nI i = nI (50 + i) from nI_add 50 i, show (62 : Int32) + nI i = nI (62 + i) from nI_add 62 i, ix_nI (by omega), ix_nI (by omega), nI_1]
      refine ⟨fun z => absurd z (nI_ge (by omega) (by omega)), fun _ => ⟨vp_in_nI (by omega) (by omega), vp_in_nI (by omega) (by omega), fun J2 e => ?_⟩⟩
      refine ih (i + 1) I0 J2 (by omega) (fun s a b => ?_) (fun s a => ?_) (fun a ha => by rw [e, u2_ne ha]; exact h3 a ha) hQ
      · rw [e, u2_at]
        by_cases hsi : s = 62 + i
        · rw [if_pos ⟨rfl, hsi⟩, h2 _ (by omega)]
          congr 1
          omega
        · rw [if_neg (fun g => hsi g.2)]
          exact h1 s a (by omega)
      · rw [e, u2_n2 (by omega)]
        exact h2 s (by omega)
  have k2 : ∀ (kf : MI → Prop) (n i : Nat) (I0 J : MI), i + n = 2212 → 62 ≤ i → (∀ s, 62 ≤ s → s < i → J 337 s = 0) → (∀ s, s < 62 → J 337 s = I0 337 s) → (∀ a, a ≠ 337 → J a = I0 a) → (∀ I', (∀ s, 62 ≤ s → s < 2212 → I' 337 s = 0) → (∀ s, s < 62 → I' 337 s = I0 337 s) → RF I0 I' → kf I') → lp_X10_starts_24 kf (n + 1) (nI i) J := by
    intro kf n
    induction n with
    | zero =>
      intro i I0 J hi hi2 h1 h2 h3 hQ
      unfold lp_X10_starts_24
      rw [show (2212 : Int32) = nI 2212 from rfl]
      exact ⟨fun _ => hQ J (fun s a b => h1 s a (by omega)) h2 h3, fun z => absurd (nI_le (by omega) (by omega)) z⟩
    | succ n ih =>
      intro i I0 J hi hi2 h1 h2 h3 hQ
      unfold lp_X10_starts_24
      rw [show (2212 : Int32) = nI 2212 from rfl, ix_nI (by omega), nI_1]
      refine ⟨fun z => absurd z (nI_ge (by omega) (by omega)), fun _ => ⟨vp_in_nI (by omega) (by omega), fun J2 e => ?_⟩⟩
      refine ih (i + 1) I0 J2 (by omega) (by omega) (fun s a b => ?_) (fun s a => ?_) (fun a ha => by rw [e, u2_ne ha]; exact h3 a ha) hQ
      · rw [e, u2_at]
        by_cases hsi : s = i
        · rw [if_pos ⟨rfl, hsi⟩]
        · rw [if_neg (fun g => hsi g.2)]
          exact h1 s a (by omega)
      · rw [e, u2_n2 (by omega)]
        exact h2 s a
  have k1 : ∀ (kf : MI → Prop) (n i : Nat) (J : MI), i + n = 20 → 5 ≤ i → (∀ s, 5 ≤ s → s < i → J 337 s = 0) → (∀ s, (s < 5 ∨ 20 ≤ s) → J 337 s = I 337 s) → (∀ a, a ≠ 337 → J a = I a) → (∀ I', (∀ s, 5 ≤ s → s < 20 → I' 337 s = 0) → (∀ s, (s < 5 ∨ 20 ≤ s) → I' 337 s = I 337 s) → RF I I' → kf I') → lp_X10_starts_2 kf (n + 1) (nI i) J := by
    intro kf n
    induction n with
    | zero =>
      intro i J hi hi2 h1 h2 h3 hQ
      unfold lp_X10_starts_2
      rw [show (20 : Int32) = nI 20 from rfl]
      exact ⟨fun _ => hQ J (fun s a b => h1 s a (by omega)) h2 h3, fun z => absurd (nI_le (by omega) (by omega)) z⟩
    | succ n ih =>
      intro i J hi hi2 h1 h2 h3 hQ
      unfold lp_X10_starts_2
      rw [show (20 : Int32) = nI 20 from rfl, ix_nI (by omega), nI_1]
      refine ⟨fun z => absurd z (nI_ge (by omega) (by omega)), fun _ => ⟨vp_in_nI (by omega) (by omega), fun J2 e => ?_⟩⟩
      refine ih (i + 1) J2 (by omega) (by omega) (fun s a b => ?_) (fun s a => ?_) (fun a ha => by rw [e, u2_ne ha]; exact h3 a ha) hQ
      · rw [e, u2_at]
        by_cases hsi : s = i
        · rw [if_pos ⟨rfl, hsi⟩]
        · rw [if_neg (fun g => hsi g.2)]
          exact h1 s a (by omega)
      · rw [e, u2_n2 (by omega)]
        exact h2 s a
  unfold wp_X10_starts
  refine ⟨16, k1 _ 15 5 I (by omega) (by omega) (fun s a b => absurd a (by omega)) (fun _ _ => rfl) (fun _ _ => rfl) (fun I1 p1 p2 p3 => ⟨2151, ?_⟩)⟩
  refine k2 _ 2150 62 I1 I1 (by omega) (by omega) (fun s a b => absurd a (by omega)) (fun _ _ => rfl) (fun _ _ => rfl) (fun I2 q1 q2 q3 => ⟨10, ?_⟩)
  rw [← nI_0]
  refine k3 _ 9 0 I2 I2 (by omega) (fun s a b => absurd a (by omega)) (fun _ _ => rfl) (fun _ _ => rfl) (fun I3 r1 r2 r3 => ⟨4, ?_⟩)
  refine k4 3 0 I3 I3 (by omega) (fun s a b => absurd a (by omega)) (fun _ _ => rfl) (fun _ _ => rfl) (fun I4 t1 t2 t3 => ?_)
  have z0 : ∀ s, ((5 ≤ s ∧ s < 20) ∨ (74 ≤ s ∧ s < 2212)) → I4 337 s = 0 := fun s hs => by
    rw [t2 s (by omega), r2 s (by omega)]
    by_cases hc : s < 20
    · rw [q2 s (by omega)]; exact p1 s (by omega) (by omega)
    · exact q1 s (by omega) (by omega)
  refine hQ I4 ⟨anew_RN h (fun s hs => ?_) (fun s hs => z0 s (by omega)) (fun s a b => ?_), ⟨?_, ?_, ?_, ?_⟩, (fun k x hx => by cases hx), (fun k x hx => by cases hx), (fun k x hx => by cases hx), (fun k x hx => by cases hx), List.Perm.refl _, Nat.zero_le _, Nat.zero_le _, Nat.zero_le _, Nat.zero_le _⟩ (((p3.tr q3).tr r3).tr t3)
  · rw [t2 s (by omega), r2 s (by omega), q2 s (by omega)]
    exact p2 s (by omega)
  · by_cases hc : s < 71
    · rw [t2 s (by omega), r1 s (by omega) (by omega), q2 _ (by omega)]
      exact p2 _ (by omega)
    · rw [t1 s (by omega) (by omega), r2 _ (by omega), q2 _ (by omega)]
      exact p2 _ (by omega)
  · exact z0 14 (by omega)
  · exact z0 15 (by omega)
  · exact z0 16 (by omega)
  · exact z0 17 (by omega)
-- what is told
section RTELL
variable {I : MI} {A : St} {Y : List (Nat × Nat × Nat × Nat)}
theorem r_late {Q : Int32 → Prop} (h : RR I A Y) (hQ : Q (lateV A)) : wp_X10_late I Q := by
  have e5 : I 337 5 = nI (sN A 0 9) := h.n (j := 0) (i := 9) (by decide)
  have e14 : I 337 14 = nI (sW A).length := h.2.1.1
  have e9 : I 337 9 = sT A 0 15 := h.t (j := 0) (i := 15) (by decide)
  have hlst := h.2.2.1
  have hl := h.2.2.2.2.2.2.2.1
  have key : ∀ (n i : Nat) (v : Int32), i + n = (sW A).length → Q (lateF (nI (sN A 0 9)) ((sW A).drop i) v) → lp_X10_late_10 I Q (n + 1) v (nI i) := by
    intro n
    induction n with
    | zero =>
      intro i v hi hq
      unfold lp_X10_late_10
      rw [show ix 14 = 14 from by decide, e14]
      refine ⟨v14, fun _ => ?_, fun z => absurd (nI_le (by omega) (by omega)) z⟩
      rw [List.drop_of_length_le (by omega)] at hq
      exact hq
    | succ n ih =>
      intro i v hi hq
      have hil : i < (sW A).length := by omega
      have x2 : I 337 (92 + 4 * i + 2) = nI (sW A)[i].2.1 := hlst i _ (List.getElem?_eq_getElem hil) 2 (by omega)
      unfold lp_X10_late_10
      rw [show ix 14 = 14 from by decide, e14, show ix 5 = 5 from by decide, e5, z92, nI_2, ix_nI (by omega), x2, nI_1]
      refine ⟨v14, fun z => absurd z (nI_ge (by omega) (by omega)), fun _ => ⟨v5, vp_in_nI (by omega) (by omega), ?_⟩⟩
      rw [List.drop_eq_getElem_cons hil] at hq
      exact ih (i + 1) _ (by omega) hq
  unfold wp_X10_late
  refine ⟨v9, (sW A).length + 1, ?_⟩
  rw [show ix 9 = 9 from by decide, e9, ← nI_0]
  exact key (sW A).length 0 _ (by omega) hQ
theorem r_most {Q : Int32 → Prop} (h : RR I A Y) (hQ : Q (mostV A)) : wp_X10_mostLate I Q := by
  have e5 : I 337 5 = nI (sN A 0 9) := h.n (j := 0) (i := 9) (by decide)
  have e14 : I 337 14 = nI (sW A).length := h.2.1.1
  have e10 : I 337 10 = sT A 0 16 := h.t (j := 0) (i := 16) (by decide)
  have hlst := h.2.2.1
  have hl := h.2.2.2.2.2.2.2.1
  have key : ∀ (n i : Nat) (v : Int32), i + n = (sW A).length → Q (mostF (nI (sN A 0 9)) ((sW A).drop i) v) → lp_X10_mostLate_10 I Q (n + 1) v (nI i) := by
    intro n
    induction n with
    | zero =>
      intro i v hi hq
      unfold lp_X10_mostLate_10
      rw [show ix 14 = 14 from by decide, e14]
      refine ⟨v14, fun _ => ?_, fun z => absurd (nI_le (by omega) (by omega)) z⟩
      rw [List.drop_of_length_le (by omega)] at hq
      exact hq
    | succ n ih =>
      intro i v hi hq
      have hil : i < (sW A).length := by omega
      have x2 : I 337 (92 + 4 * i + 2) = nI (sW A)[i].2.1 := hlst i _ (List.getElem?_eq_getElem hil) 2 (by omega)
      unfold lp_X10_mostLate_10 jn_X10_mostLate_52
      rw [show ix 14 = 14 from by decide, e14, show ix 5 = 5 from by decide, e5, z92, nI_2, ix_nI (by omega), x2, nI_1]
      refine ⟨v14, fun z => absurd z (nI_ge (by omega) (by omega)), fun _ => ⟨v5, vp_in_nI (by omega) (by omega), ?_⟩⟩
      rw [List.drop_eq_getElem_cons hil] at hq
      unfold mostF at hq
      refine ⟨fun z => ?_, fun z => ?_⟩
      · rw [if_pos z] at hq
        exact ih (i + 1) _ (by omega) hq
      · rw [if_neg z] at hq
        exact ih (i + 1) _ (by omega) hq
  unfold wp_X10_mostLate
  refine ⟨v10, (sW A).length + 1, ?_⟩
  rw [show ix 10 = 10 from by decide, e10, ← nI_0]
  exact key (sW A).length 0 _ (by omega) hQ
theorem r_played {v : Int32} {Q : Int32 → Prop} (h : RR I A Y) (hQ : Q (tellV A v)) : wp_X10_played I v Q := by
  have e5 : I 337 5 = nI (sN A 0 9) := h.n (j := 0) (i := 9) (by decide)
  have e6 : I 337 6 = sT A 0 12 := h.t (j := 0) (i := 12) (by decide)
  have e7 : I 337 7 = sT A 0 13 := h.t (j := 0) (i := 13) (by decide)
  have e8 : I 337 8 = sT A 0 14 := h.t (j := 0) (i := 14) (by decide)
  have e11 : I 337 11 = sT A 0 17 := h.t (j := 0) (i := 17) (by decide)
  have e12 : I 337 12 = sT A 0 18 := h.t (j := 0) (i := 18) (by decide)
  have e14 : I 337 14 = nI (sW A).length := h.2.1.1
  have e16 : I 337 16 = nI (sY A).length := by rw [h.2.1.2.2.1, h.2.2.2.2.2.2.1.length_eq]
  have e17 : I 337 17 = nI (sQ A).length := h.2.1.2.2.2
  unfold wp_X10_played
  rw [show ix 5 = 5 from by decide, show ix 6 = 6 from by decide, show ix 7 = 7 from by decide, show ix 8 = 8 from by decide, show ix 11 = 11 from by decide, show ix 12 = 12 from by decide, show ix 14 = 14 from by decide, show ix 16 = 16 from by decide, show ix 17 = 17 from by decide, e5, e6, e7, e8, e11, e12, e14, e16, e17]
  unfold tellV at hQ
  exact wi hQ (fun h => ⟨v5, h⟩) (fun hQ => wi hQ (fun h => ⟨v6, h⟩) (fun hQ => wi hQ (fun h => ⟨v7, h⟩) (fun hQ => wi hQ (fun h => ⟨v14, h⟩) (fun hQ => wi hQ (fun h => ⟨v8, h⟩) (fun hQ => wi hQ (fun hQ => r_late h hQ) (fun hQ => wi hQ (fun hQ => r_most h hQ) (fun hQ => wi hQ (fun h => ⟨v11, h⟩) (fun hQ => wi hQ (fun h => ⟨v12, h⟩) (fun hQ => wi hQ (fun h => ⟨v16, h⟩) (fun hQ => wi hQ (fun h => ⟨v17, h⟩) id))))))))))
theorem r_areDays {v m : Int32} {Q : Int32 → Prop} (h : RR I A Y) (h1 : dayOk A v m → Q 1) (h0 : ¬ dayOk A v m → Q 0) : wp_X10_areDays I v m Q := by
  have e5 : I 337 5 = nI (sN A 0 9) := h.n (j := 0) (i := 9) (by decide)
  unfold wp_X10_areDays wp_X10_isIn
  rw [show ix 5 = 5 from by decide, e5]
  refine ⟨fun z => ⟨fun _ => h0 (fun q => q.1 z), fun q => absurd rfl q⟩, fun a => ⟨fun z => ⟨fun _ => h0 (fun q => q.2.1 z), fun q => absurd rfl q⟩, fun b => ⟨fun z => absurd z (by decide), fun _ => ⟨v5, fun z => h0 (fun q => q.2.2 z), fun d => h1 ⟨a, b, d⟩⟩⟩⟩⟩
theorem r_isIx {v : Int32} {k : Nat} {Q : Int32 → Prop} (hk : k < 2 ^ 30) (h1 : isIx v k → Q 1) (h0 : ¬ isIx v k → Q 0) : wp_X10_isIn v 0 (nI k - 1) Q := by
  unfold wp_X10_isIn
  refine ⟨fun z => h0 (fun ⟨p, hp, e⟩ => ?_), fun z => ?_⟩
  · rw [e] at z
    exact absurd z (nI_pos (by omega))
  · obtain ⟨j, hj, rfl⟩ := nI_of z
    cases k with
    | zero =>
      refine ⟨fun _ => h0 (fun ⟨p, hp, _⟩ => by omega), fun w => absurd ?_ w⟩
      rw [nI_0]
      have : (-1 : Int32) < nI j := by
        rw [Int32.lt_iff_toInt_lt, nI_toInt hj]
        have : (-1 : Int32).toInt = -1 := by decide
        omega
      exact this
    | succ k =>
      rw [nI_pred]
      refine pk_lt k j (fun w => h0 (fun ⟨p, hp, e⟩ => ?_)) (fun w => h1 ⟨j, by omega, rfl⟩)
      have := (nI_eq hj (by omega)).mp e
      omega
theorem r_isPart {v : Int32} {Q : Int32 → Prop} (h : RR I A Y) (hs : SetOk A) (h1 : isIx v (sN A 1 0) → Q 1) (h0 : ¬ isIx v (sN A 1 0) → Q 0) : wp_X10_isPart I v Q := by
  have e : I 337 0 = nI (sN A 1 0) := h.n (j := 1) (i := 0) (by decide)
  have := hs.1.1
  unfold wp_X10_isPart
  rw [show ix 0 = 0 from by decide, e]
  exact ⟨v0, r_isIx (by omega) (fun z => ⟨Or.inr rfl, h1 z⟩) (fun z => ⟨Or.inl rfl, h0 z⟩)⟩
theorem r_isBase {v : Int32} {Q : Int32 → Prop} (h : RR I A Y) (hs : SetOk A) (h1 : isIx v (sN A 1 1) → Q 1) (h0 : ¬ isIx v (sN A 1 1) → Q 0) : wp_X10_isBase I v Q := by
  have e : I 337 1 = nI (sN A 1 1) := h.n (j := 1) (i := 1) (by decide)
  have := hs.1.2.1
  unfold wp_X10_isBase
  rw [show ix 1 = 1 from by decide, e]
  exact ⟨v1, r_isIx (by omega) (fun z => ⟨Or.inr rfl, h1 z⟩) (fun z => ⟨Or.inl rfl, h0 z⟩)⟩
theorem r_isCell {v w : Int32} {Q : Int32 → Prop} (h : RR I A Y) (hs : SetOk A) (h1 : ∀ b p, b < sN A 1 1 → p < sN A 1 0 → v = nI b → w = nI p → Q 1) (h0 : ¬ (isIx v (sN A 1 1) ∧ isIx w (sN A 1 0)) → Q 0) : wp_X10_isCell I v w Q := by
  unfold wp_X10_isCell
  exact r_isBase h hs (fun ⟨b, hb, eb⟩ => ⟨fun z => absurd z (by decide), fun _ => r_isPart h hs (fun ⟨p, hp, ep⟩ => ⟨fun z => absurd z (by decide), fun _ => h1 b p hb hp eb ep⟩) (fun z => ⟨fun _ => h0 (fun q => z q.2), fun q => absurd rfl q⟩)⟩) (fun z => ⟨fun _ => h0 (fun q => z q.1), fun q => absurd rfl q⟩)
end RTELL
-- till all is quiet
theorem r_quiet {I : MI} {A : St} {Q : Int32 → MI → Prop} (h : ∃ Y, RR I A Y) (hg : Good A) (h9 : sN A 0 9 ≤ 9999) (hb : sN A 0 10 + 37000 * (9999 - sN A 0 9) + 40000 < 2 ^ 30) (hQ : ∀ I', (∃ Y, RR I' A Y) → (∀ a, a ≠ 337 → a ≠ 338 → I' a = I a) → Q (qVal (9999 - sN A 0 9) A) I') : wp_X10_quiet I Q := by
  obtain ⟨Y, h⟩ := h
  unfold wp_X10_quiet
  refine r_putAside (fun I1 p1 p2 => ⟨9999 - sN A 0 9 + 1, ?_⟩)
  have fin : ∀ (J : MI) (v : Int32), (∀ s, s < 2212 → J 338 s = I 337 s) → (∀ a, a ≠ 337 → a ≠ 338 → J a = I a) → v = qVal (9999 - sN A 0 9) A → jn_X10_quiet_54 J v Q := by
    intro J v j1 j2 hv
    unfold jn_X10_quiet_54
    refine r_bringBack (fun I' q1 q2 => ?_)
    rw [hv]
    exact hQ I' ⟨Y, h.cp (fun s hs => by rw [q1 s hs, j1 s hs])⟩ (fun a ha hb => by rw [q2 a ha, j2 a ha hb])
  have key : ∀ (n : Nat) (B : St) (J : MI), (∃ Z, RR J B Z) → Good B → sN B 0 9 + n = 9999 → sN B 0 10 + 37000 * n + 40000 < 2 ^ 30 → (∀ s, s < 2212 → J 338 s = I 337 s) → (∀ a, a ≠ 337 → a ≠ 338 → J a = I a) → qVal n B = qVal (9999 - sN A 0 9) A → lp_X10_quiet_4 (fun I8 => (jn_X10_quiet_33 I8 Q)) (n + 1) J := by
    intro n
    induction n with
    | zero =>
      intro B J hB hgB hn hbB j1 j2 hq
      obtain ⟨Z, hB⟩ := hB
      have e5 : J 337 5 = nI (sN B 0 9) := hB.n (j := 0) (i := 9) (by decide)
      have e16 : J 337 16 = nI (sY B).length := by rw [hB.2.1.2.2.1, hB.2.2.2.2.2.2.1.length_eq]
      have hyl := hgB.2.1.yl
      have last : jn_X10_quiet_33 J Q := by
        unfold jn_X10_quiet_33
        rw [show ix 16 = 16 from by decide, e16, show ix 5 = 5 from by decide, e5]
        refine ⟨v16, pk_le (sY B).length 0 (fun z => ⟨v5, fin J _ j1 j2 ?_⟩) (fun z => fin J _ j1 j2 ?_)⟩
        · rw [← hq]
          unfold qVal
          rw [List.eq_nil_of_length_eq_zero (Nat.le_zero.mp z)]
        · rw [← hq]
          unfold qVal
          cases hy : sY B with
          | nil => rw [hy] at z; exact absurd z (by simp)
          | cons y ys => rfl
      unfold lp_X10_quiet_4
      rw [show ix 16 = 16 from by decide, show ix 5 = 5 from by decide, e5]
      refine ⟨v16, fun _ => last, fun _ => ⟨v5, fun _ => last, fun z => absurd ?_ z⟩⟩
      rw [show (9999 : Int32) = nI 9999 from rfl]
      exact nI_le (by omega) (by omega)
    | succ n ih =>
      intro B J hB hgB hn hbB j1 j2 hq
      have hB' := hB
      obtain ⟨Z, hB⟩ := hB
      have e5 : J 337 5 = nI (sN B 0 9) := hB.n (j := 0) (i := 9) (by decide)
      have e16 : J 337 16 = nI (sY B).length := by rw [hB.2.1.2.2.1, hB.2.2.2.2.2.2.1.length_eq]
      have hyl := hgB.2.1.yl
      unfold lp_X10_quiet_4
      rw [show ix 16 = 16 from by decide, e16, show ix 5 = 5 from by decide, e5, show (9999 : Int32) = nI 9999 from rfl]
      refine ⟨v16, pk_le (sY B).length 0 (fun z => ?_) (fun z => ⟨v5, fun w => absurd w (nI_ge (by omega) (by omega)), fun _ => ?_⟩)⟩
      · have hy : sY B = [] := List.eq_nil_of_length_eq_zero (Nat.le_zero.mp z)
        unfold jn_X10_quiet_33
        rw [show ix 16 = 16 from by decide, e16, show ix 5 = 5 from by decide, e5]
        refine ⟨v16, fun _ => ⟨v5, fin J _ j1 j2 ?_⟩, fun w => absurd (nI_le z (by omega)) w⟩
        rw [← hq]
        unfold qVal
        rw [hy]
      · obtain ⟨a1, a2, a3, a4, a5, a6, a7⟩ := goDay_ok hgB.1 hgB.2.1 hgB.2.2 (by omega)
        refine r_goesDay hB' hgB.1 hgB.2.1 hgB.2.2 (by omega) (by omega) (fun I6 h6 f6 => ?_)
        refine ih (goDay B) I6 h6 ⟨a1, a2, a3⟩ (by omega) (by omega) (fun s hs => by rw [f6 338 (by omega)]; exact j1 s hs) (fun a ha hb => by rw [f6 a ha]; exact j2 a ha hb) ?_
        rw [← hq]
        cases hy : sY B with
        | nil => rw [hy] at z; exact absurd z (by simp)
        | cons y ys =>
          show _ = (match sY B with | [] => nI (sN B 0 9) | _ :: _ => qVal n (goDay B))
          rw [hy]
  exact key (9999 - sN A 0 9) A I1 ⟨Y, h.cg (by rw [p2 337 (by omega)])⟩ hg (by omega) hb p1 (fun a ha hb => p2 a hb) rfl
