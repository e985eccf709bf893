/-! the reference reads a text: tokens, words, numbers -/
/-- the reference's tape as it is read -/
def RT (I : MI) (t : Nat → Nat) (n : Nat) : Prop := n ≤ 400 ∧ I 336 7 = nI n ∧ ∀ k, k < n → t k < 256 ∧ I 340 k = nI (t k)
def FQ (I I' : MI) : Prop := ∀ k s, ¬ (k = 336 ∧ 8 ≤ s ∧ s ≤ 12) → I' k s = I k s
theorem FQ.rf {I : MI} : FQ I I := fun _ _ _ => rfl
theorem FQ.tr {I J K : MI} (h : FQ I J) (h2 : FQ J K) : FQ I K := fun k s hs => (h2 k s hs).trans (h k s hs)
theorem FQ.u {I I' : MI} {i : Nat} {v : Int32} (e : I' = u2 I 336 i v) (h1 : 8 ≤ i) (h2 : i ≤ 12) : FQ I I' := fun k s hs => by rw [e, u2_at, if_neg (by omega)]
theorem FQ.rt {I I' : MI} {t : Nat → Nat} {n : Nat} (f : FQ I I') (h : RT I t n) : RT I' t n := ⟨h.1, by rw [f 336 7 (by omega)]; exact h.2.1, fun k hk => ⟨(h.2.2 k hk).1, by rw [f 340 k (by omega)]; exact (h.2.2 k hk).2⟩⟩
theorem FQ.m {I I' : MI} (f : FQ I I') : I' 337 = I 337 := by funext s; exact f 337 s (by omega)
/-- the token that begins at s is at hand -/
def TK (I : MI) (t : Nat → Nat) (n s : Nat) : Prop := (s = n → I 336 9 = 0 ∧ I 336 8 = nI n) ∧ (isL t n s = true → I 336 9 = 1 ∧ I 336 8 = nI (skL t n s)) ∧ (isD t n s = true → I 336 9 = 2 ∧ I 336 8 = nI (skD t n s) ∧ (skD t n s ≤ s + 2 → I 336 11 = nI (dv t s (skD t n s))) ∧ (s + 2 < skD t n s → I 336 11 = 1000)) ∧ (s < n → isL t n s = false → isD t n s = false → I 336 9 = 3 ∧ I 336 11 = nI (t s) ∧ I 336 8 = nI (s + 1))
def adjB (t : Nat → Nat) (n i : Nat) : Bool := decide (skG t n i = i ∧ 0 < i ∧ (isL t n i = true ∨ isD t n i = true) ∧ (isL t n (i - 1) = true ∨ isD t n (i - 1) = true))
section RREAD
variable {t : Nat → Nat} {n : Nat}
theorem r_isLetter {I : MI} {k : Nat} {Q : Int32 → Prop} (hT : RT I t n) (hk : k < 2 ^ 30) (h1 : isL t n k = true → Q 1) (h0 : isL t n k = false → Q 0) : wp_X10_isLetter I (nI k) Q := by
  have hn := hT.1
  unfold wp_X10_isLetter wp_X10_isIn
  rw [hT.2.1, ix_nI (by omega)]
  refine pk_le n k (fun z => h0 ?_) (fun z => ⟨vp_in_nI (by omega) (by omega), ?_⟩)
  · unfold isL; exact decide_eq_false (fun q => by omega)
  · obtain ⟨a, b⟩ := hT.2.2 k z
    rw [b]
    refine pk_lt (t k) 97 (fun w => ⟨fun _ => h0 ?_, fun q => absurd rfl q⟩) (fun w => pk_lt 122 (t k) (fun u => ⟨fun _ => h0 ?_, fun q => absurd rfl q⟩) (fun u => ⟨fun q => absurd q (by decide), fun _ => h1 ?_⟩))
    · unfold isL; exact decide_eq_false (fun q => by omega)
    · unfold isL; exact decide_eq_false (fun q => by omega)
    · unfold isL; exact decide_eq_true ⟨z, w, u⟩
theorem r_isDigit {I : MI} {k : Nat} {Q : Int32 → Prop} (hT : RT I t n) (hk : k < 2 ^ 30) (h1 : isD t n k = true → Q 1) (h0 : isD t n k = false → Q 0) : wp_X10_isDigit I (nI k) Q := by
  have hn := hT.1
  unfold wp_X10_isDigit wp_X10_isIn
  rw [hT.2.1, ix_nI (by omega)]
  refine pk_le n k (fun z => h0 ?_) (fun z => ⟨vp_in_nI (by omega) (by omega), ?_⟩)
  · unfold isD; exact decide_eq_false (fun q => by omega)
  · obtain ⟨a, b⟩ := hT.2.2 k z
    rw [b]
    refine pk_lt (t k) 48 (fun w => ⟨fun _ => h0 ?_, fun q => absurd rfl q⟩) (fun w => pk_lt 57 (t k) (fun u => ⟨fun _ => h0 ?_, fun q => absurd rfl q⟩) (fun u => ⟨fun q => absurd q (by decide), fun _ => h1 ?_⟩))
    · unfold isD; exact decide_eq_false (fun q => by omega)
    · unfold isD; exact decide_eq_false (fun q => by omega)
    · unfold isD; exact decide_eq_true ⟨z, w, u⟩
theorem LD_ne {s : Nat} (h : isL t n s = true) : isD t n s = false := by
  have := of_decide_eq_true h
  unfold isD
  exact decide_eq_false (fun q => by omega)
theorem r_tok {I : MI} {s : Nat} {Q : MI → Prop} (hT : RT I t n) (h8 : I 336 8 = nI s) (h10 : I 336 10 = nI s) (h11 : I 336 11 = 0) (hs : s ≤ n) (hQ : ∀ I', FQ I I' → I' 336 10 = nI s → TK I' t n s → I' 336 12 = I 336 12 → Q I') : jn_X10_nextToken_141 I Q := by
  have hn := hT.1
  unfold jn_X10_nextToken_141
  rw [h8, hT.2.1]
  refine (pk_eq s n (fun z I38 e => ?_) (fun z => ?_)).symm
  · refine hQ I38 (FQ.u e (by omega) (by omega)) (by rw [e, u2_n2 (by omega)]; exact h10) ⟨fun _ => ⟨by rw [e, u2_s], by rw [e, u2_n2 (by omega), h8, z]⟩, fun q => absurd (isL_lt q) (by omega), fun q => absurd (isD_lt q) (by omega), fun q => absurd q (by omega)⟩ (by rw [e, u2_n2 (by omega)])
  · refine r_isLetter hT (by omega) (fun hL => ⟨fun q => absurd q (by decide), fun _ I33 e33 => ?_⟩) (fun hL => ⟨fun _ => r_isDigit hT (by omega) (fun hD => ⟨fun q => absurd q (by decide), fun _ I23 e23 => ?_⟩) (fun hD => ⟨fun _ I19 e19 => ?_, fun q => absurd rfl q⟩), fun q => absurd rfl q⟩)
    · -- letters
      have f33 : FQ I I33 := FQ.u e33 (by omega) (by omega)
      have key : ∀ (m j : Nat) (J : MI), j + m = n → FQ I J → J 336 8 = nI j → J 336 9 = 1 → J 336 10 = nI s → J 336 12 = I 336 12 → skL t n j = skL t n s → lp_X10_nextToken_176 Q (m + 1) J := by
        intro m
        induction m with
        | zero =>
          intro j J hj f e8 e9 e10 e12 hk
          unfold lp_X10_nextToken_176
          rw [e8]
          refine r_isLetter (f.rt hT) (by omega) (fun q => absurd (isL_lt q) (by omega)) (fun q => ⟨fun _ => ?_, fun w => absurd rfl w⟩)
          refine hQ J f e10 ⟨fun w => absurd w z, fun _ => ⟨e9, by rw [e8, ← hk, show skL t n j = j from sk_no q]⟩, fun w => absurd w (by rw [LD_ne hL]; decide), fun _ w => absurd w (by rw [hL]; decide)⟩ e12
        | succ m ih =>
          intro j J hj f e8 e9 e10 e12 hk
          unfold lp_X10_nextToken_176
          rw [e8]
          refine r_isLetter (f.rt hT) (by omega) (fun q => ⟨fun w => absurd w (by decide), fun _ I36 e36 => ?_⟩) (fun q => ⟨fun _ => ?_, fun w => absurd rfl w⟩)
          · rw [nI_1] at e36
            exact ih (j + 1) I36 (by omega) (f.tr (FQ.u e36 (by omega) (by omega))) (by rw [e36, u2_s]) (by rw [e36, u2_n2 (by omega)]; exact e9) (by rw [e36, u2_n2 (by omega)]; exact e10) (by rw [e36, u2_n2 (by omega)]; exact e12) (by rw [← hk]; exact (sk_yes q (isL_lt q)).symm)
          · exact hQ J f e10 ⟨fun w => absurd w z, fun _ => ⟨e9, by rw [e8, ← hk, show skL t n j = j from sk_no q]⟩, fun w => absurd w (by rw [LD_ne hL]; decide), fun _ w => absurd w (by rw [hL]; decide)⟩ e12
      exact ⟨n - s + 1, key (n - s) s I33 (by omega) f33 (by rw [e33, u2_n2 (by omega)]; exact h8) (by rw [e33, u2_s]) (by rw [e33, u2_n2 (by omega)]; exact h10) (by rw [e33, u2_n2 (by omega)]) rfl⟩
    · -- digits
      have f23 : FQ I I23 := FQ.u e23 (by omega) (by omega)
      have key : ∀ (m j : Nat) (J : MI), j + m = n → s ≤ j → FQ I J → J 336 8 = nI j → J 336 9 = 2 → J 336 10 = nI s → J 336 12 = I 336 12 → skD t n j = skD t n s → (j = s → J 336 11 = 0) → (j = s + 1 → J 336 11 = nI (t s - 48)) → (j = s + 2 → J 336 11 = nI (10 * (t s - 48) + (t (s + 1) - 48))) → (s + 2 < j → J 336 11 = 1000) → lp_X10_nextToken_216 Q (m + 1) J := by
        have fin : ∀ (j : Nat) (J : MI), s ≤ j → FQ I J → J 336 8 = nI j → J 336 9 = 2 → J 336 10 = nI s → J 336 12 = I 336 12 → skD t n j = skD t n s → skD t n j = j → (j = s + 1 → J 336 11 = nI (t s - 48)) → (j = s + 2 → J 336 11 = nI (10 * (t s - 48) + (t (s + 1) - 48))) → (s + 2 < j → J 336 11 = 1000) → Q J := by
          intro j J hsj f e8 e9 e10 e12 hk hkj a1 a2 a3
          have hlt : s < j := by
            rw [← hkj, hk]
            have e := sk_yes (n := n) hD (isD_lt hD)
            have := skD_f (t := t) (n := n) (i := s + 1) (by have := isD_lt hD; omega)
            have e' : skD t n s = skD t n (s + 1) := e
            omega
          refine hQ J f e10 ⟨fun w => absurd w z, fun w => absurd w (by rw [hL]; decide), fun _ => ⟨e9, by rw [e8, ← hk, hkj], fun q => ?_, fun q => a3 (by rw [← hk, hkj] at q; exact q)⟩, fun _ _ w => absurd w (by rw [hD]; decide)⟩ e12
          rw [← hk, hkj] at q ⊢
          unfold dv
          by_cases h1 : j = s + 1
          · rw [if_pos h1]; exact a1 h1
          · rw [if_neg h1]; exact a2 (by omega)
        intro m
        induction m with
        | zero =>
          intro j J hj hsj f e8 e9 e10 e12 hk a0 a1 a2 a3
          unfold lp_X10_nextToken_216
          rw [e8]
          refine r_isDigit (f.rt hT) (by omega) (fun q => absurd (isD_lt q) (by omega)) (fun q => ⟨fun _ => fin j J hsj f e8 e9 e10 e12 hk (sk_no q) a1 a2 a3, fun w => absurd rfl w⟩)
        | succ m ih =>
          intro j J hj hsj f e8 e9 e10 e12 hk a0 a1 a2 a3
          unfold lp_X10_nextToken_216 jn_X10_nextToken_267
          rw [e8, e10, pk_sub hsj, ix_nI (by omega)]
          refine r_isDigit (f.rt hT) (by omega) (fun q => ⟨fun w => absurd w (by decide), fun _ => ?_⟩) (fun q => ⟨fun _ => fin j J hsj f e8 e9 e10 e12 hk (sk_no q) a1 a2 a3, fun w => absurd rfl w⟩)
          have hd := of_decide_eq_true q
          obtain ⟨b1, b2⟩ := (f.rt hT).2.2 j hd.1
          have go : ∀ (v : Int32) (I28 I29 : MI), I28 = u2 J 336 11 v → I29 = u2 I28 336 8 ((I28 336 8) + 1) → (j = s → v = nI (t s - 48)) → (j = s + 1 → v = nI (10 * (t s - 48) + (t (s + 1) - 48))) → (s + 2 ≤ j → v = 1000) → lp_X10_nextToken_216 Q (m + 1) I29 := by
            intro v I28 I29 e28 e29 c1 c2 c3
            have g8 : I28 336 8 = nI j := by rw [e28, u2_n2 (by omega)]; exact e8
            rw [g8, nI_1] at e29
            have g11 : I29 336 11 = v := by rw [e29, u2_n2 (by omega), e28, u2_s]
            refine ih (j + 1) I29 (by omega) (by omega) (f.tr ((FQ.u e28 (by omega) (by omega)).tr (FQ.u e29 (by omega) (by omega)))) (by rw [e29, u2_s]) (by rw [e29, u2_n2 (by omega), e28, u2_n2 (by omega)]; exact e9) (by rw [e29, u2_n2 (by omega), e28, u2_n2 (by omega)]; exact e10) (by rw [e29, u2_n2 (by omega), e28, u2_n2 (by omega)]; exact e12) (by rw [← hk]; exact (sk_yes q hd.1).symm) (fun w => by omega) (fun w => ?_) (fun w => ?_) (fun w => ?_)
            · rw [g11]; exact c1 (by omega)
            · rw [g11]; exact c2 (by omega)
            · rw [g11]; exact c3 (by omega)
          refine pk_le (j - s) 1 (fun w => ⟨vp_in_nI (by omega) (by omega), fun I28 e28 I29 e29 => go _ I28 I29 e28 e29 (fun c => ?_) (fun c => ?_) (fun c => by omega)⟩) (fun w I28 e28 I29 e29 => go _ I28 I29 e28 e29 (fun c => by omega) (fun c => by omega) (fun c => rfl))
          · rw [a0 c, b2, c, show (10 : Int32) * 0 + nI (t s) = nI (t s) by rw [show (10 : Int32) * 0 = nI 0 from by decide, nI_add, Nat.zero_add], show (48 : Int32) = nI 48 from rfl, pk_sub (by rw [c] at hd; omega)]
          · rw [a1 c, b2, c, show (10 : Int32) = nI 10 from rfl, pk_mul, nI_add, show (48 : Int32) = nI 48 from rfl, pk_sub (by rw [c] at hd; omega)]
            congr 1
            rw [c] at hd
            omega
      exact ⟨n - s + 1, key (n - s) s I23 (by omega) (Nat.le_refl _) f23 (by rw [e23, u2_n2 (by omega)]; exact h8) (by rw [e23, u2_s]) (by rw [e23, u2_n2 (by omega)]; exact h10) (by rw [e23, u2_n2 (by omega)]) rfl (fun _ => by rw [e23, u2_n2 (by omega)]; exact h11) (fun q => by omega) (fun q => by omega) (fun q => by omega)⟩
    · -- a sign
      have hsn : s < n := by omega
      have g8 : I19 336 8 = nI s := by rw [e19, u2_n2 (by omega)]; exact h8
      obtain ⟨b1, b2⟩ := hT.2.2 s hsn
      have b2' : I19 340 s = nI (t s) := by rw [e19, u2_ne (by omega)]; exact b2
      rw [g8, ix_nI (by omega), b2']
      refine ⟨vp_in_nI (by omega) (by omega), fun I21 e21 I22 e22 => ?_⟩
      have g21 : I21 336 8 = nI s := by rw [e21, u2_n2 (by omega)]; exact g8
      rw [g21, nI_1] at e22
      refine hQ I22 ((FQ.u e19 (by omega) (by omega)).tr ((FQ.u e21 (by omega) (by omega)).tr (FQ.u e22 (by omega) (by omega)))) (by rw [e22, u2_n2 (by omega), e21, u2_n2 (by omega), e19, u2_n2 (by omega)]; exact h10) ⟨fun w => absurd w z, fun w => absurd w (by rw [hL]; decide), fun w => absurd w (by rw [hD]; decide), fun _ _ _ => ⟨?_, ?_, ?_⟩⟩ (by rw [e22, u2_n2 (by omega), e21, u2_n2 (by omega), e19, u2_n2 (by omega)])
      · rw [e22, u2_n2 (by omega), e21, u2_n2 (by omega), e19, u2_s]
      · rw [e22, u2_n2 (by omega), e21, u2_s]
      · rw [e22, u2_s]
theorem r_nextToken {I : MI} {i : Nat} {Q : MI → Prop} (hT : RT I t n) (h8 : I 336 8 = nI i) (hi : i ≤ n) (hQ : ∀ I', FQ I I' → I' 336 10 = nI (skG t n i) → TK I' t n (skG t n i) → (I 336 12 = -1 → I' 336 12 = if adjB t n i then nI (skG t n i) else -1) → (¬ I 336 12 = -1 → I' 336 12 = I 336 12) → Q I') : wp_X10_nextToken I Q := by
  have hn := hT.1
  have g := skG_f (t := t) hi
  have fin : ∀ (J : MI), FQ I J → J 336 8 = nI (skG t n i) → J 336 12 = I 336 12 → jn_X10_nextToken_57 J (nI i) Q := by
    intro J f e8 e12
    unfold jn_X10_nextToken_57
    intro I11 e11 I12 e12'
    rw [e8] at e11
    have g8 : I12 336 8 = nI (skG t n i) := by rw [e12', u2_n2 (by omega), e11, u2_n2 (by omega)]; exact e8
    have g10 : I12 336 10 = nI (skG t n i) := by rw [e12', u2_n2 (by omega), e11, u2_s]
    have g11 : I12 336 11 = 0 := by rw [e12', u2_s]
    have g12 : I12 336 12 = I 336 12 := by rw [e12', u2_n2 (by omega), e11, u2_n2 (by omega)]; exact e12
    have f12 : FQ I I12 := f.tr ((FQ.u e11 (by omega) (by omega)).tr (FQ.u e12' (by omega) (by omega)))
    have hT12 := f12.rt hT
    have plain : adjB t n i = false → jn_X10_nextToken_141 I12 Q := fun ha =>
      r_tok hT12 g8 g10 g11 g.2.1 (fun I' f' a b c => hQ I' (f12.tr f') a b (fun q => by rw [c, g12, q, ha]; rfl) (fun q => by rw [c, g12]))
    have bad : adjB t n i = true → jn_X10_nextToken_133 I12 Q := by
      intro ha
      unfold jn_X10_nextToken_133 wp_X10_wrong
      rw [g8, g12]
      refine ⟨fun q => ?_, fun q I2 e2 => ?_⟩
      · exact r_tok hT12 g8 g10 g11 g.2.1 (fun I' f' a b c => hQ I' (f12.tr f') a b (fun w => absurd w q) (fun _ => by rw [c, g12]))
      · have f2 := FQ.u e2 (by omega) (by omega)
        refine r_tok (f2.rt hT12) (by rw [e2, u2_n2 (by omega)]; exact g8) (by rw [e2, u2_n2 (by omega)]; exact g10) (by rw [e2, u2_n2 (by omega)]; exact g11) g.2.1 (fun I' f' a b c => hQ I' ((f12.tr f2).tr f') a b (fun _ => by rw [c, e2, u2_s, ha]; rfl) (fun w => absurd q w))
    rw [g8]
    refine (pk_eq (skG t n i) i (fun z => pk_le (skG t n i) 0 (fun w => plain ?_) (fun w => ?_)) (fun z => plain ?_)).symm
    · unfold adjB; exact decide_eq_false (fun q => by omega)
    · have two : (isL t n i = true ∨ isD t n i = true) → jn_X10_nextToken_107 I12 Q := by
        intro hh
        unfold jn_X10_nextToken_107
        rw [g8]
        obtain ⟨r, hr⟩ : ∃ r, skG t n i = r + 1 := ⟨skG t n i - 1, by omega⟩
        rw [hr, nI_pred]
        have er : i - 1 = r := by omega
        refine r_isLetter hT12 (by omega) (fun q => ⟨fun _ => bad ?_, fun u => absurd u (by decide)⟩) (fun q => ⟨fun u => absurd rfl u, fun _ => r_isDigit hT12 (by omega) (fun p => ⟨fun u => absurd u (by decide), fun _ => bad ?_⟩) (fun p => ⟨fun _ => plain ?_, fun u => absurd rfl u⟩)⟩)
        · unfold adjB; exact decide_eq_true ⟨z, by omega, hh, Or.inl (by rw [er]; exact q)⟩
        · unfold adjB; exact decide_eq_true ⟨z, by omega, hh, Or.inr (by rw [er]; exact p)⟩
        · unfold adjB
          refine decide_eq_false (fun u => ?_)
          rw [er, q, p] at u
          rcases u.2.2.2 with h | h <;> exact absurd h (by decide)
      refine r_isLetter hT12 (by omega) (fun q => ⟨fun _ => two (Or.inl (by rw [← z]; exact q)), fun u => absurd u (by decide)⟩) (fun q => ⟨fun u => absurd rfl u, fun _ => r_isDigit hT12 (by omega) (fun p => ⟨fun u => absurd u (by decide), fun _ => two (Or.inr (by rw [← z]; exact p))⟩) (fun p => ⟨fun _ => plain ?_, fun u => absurd rfl u⟩)⟩)
      unfold adjB
      refine decide_eq_false (fun u => ?_)
      rw [z] at q p
      rw [q, p] at u
      rcases u.2.2.1 with h | h <;> exact absurd h (by decide)
    · unfold adjB; exact decide_eq_false (fun q => z q.1)
  have key : ∀ (m j : Nat) (J : MI), j + m = n → FQ I J → J 336 8 = nI j → J 336 12 = I 336 12 → skG t n j = skG t n i → lp_X10_nextToken_5 (fun I10 => (jn_X10_nextToken_57 I10 (nI i) Q)) (m + 1) J := by
    intro m
    induction m with
    | zero =>
      intro j J hj f e8 e12 hk
      have e7 := (f.rt hT).2.1
      have hf : isG t n j = false := by unfold isG; exact decide_eq_false (fun q => by omega)
      unfold lp_X10_nextToken_5
      rw [e7, e8]
      exact ⟨fun _ => fin J f (by rw [e8, ← hk, show skG t n j = j from sk_no hf]) e12, fun z => absurd (nI_le (by omega) (by omega)) z⟩
    | succ m ih =>
      intro j J hj f e8 e12 hk
      have hjl : j < n := by omega
      have e7 := (f.rt hT).2.1
      obtain ⟨b1, b2⟩ := (f.rt hT).2.2 j hjl
      have yes : isG t n j = true → jn_X10_nextToken_44 J (fun I5 => (lp_X10_nextToken_5 (fun I10 => (jn_X10_nextToken_57 I10 (nI i) Q)) (m + 1) I5)) := by
        intro q
        unfold jn_X10_nextToken_44
        intro J4 e
        rw [e8, nI_1] at e
        exact ih (j + 1) J4 (by omega) (f.tr (FQ.u e (by omega) (by omega))) (by rw [e, u2_s]) (by rw [e, u2_n2 (by omega)]; exact e12) (by rw [← hk]; exact (sk_yes q hjl).symm)
      unfold lp_X10_nextToken_5
      rw [e7, e8, ix_nI (by omega), b2]
      refine ⟨fun z => absurd z (nI_ge (by omega) (by omega)), fun _ => ⟨vp_in_nI (by omega) (by omega), pk_eq (t j) 32 (fun z => yes ?_) (fun z => ⟨vp_in_nI (by omega) (by omega), (pk_eq (t j) 10 (fun w => yes ?_) (fun w => fin J f ?_ e12)).symm⟩)⟩⟩
      · unfold isG; exact decide_eq_true ⟨hjl, Or.inl z⟩
      · unfold isG; exact decide_eq_true ⟨hjl, Or.inr w⟩
      · have hf : isG t n j = false := by unfold isG; exact decide_eq_false (fun q => by omega)
        rw [e8, ← hk, show skG t n j = j from sk_no hf]
  unfold wp_X10_nextToken
  rw [h8]
  exact ⟨n - i + 1, key (n - i) i I (by omega) FQ.rf h8 rfl rfl⟩
/-- the token behind a word or a number -/
def NT (I : MI) (t : Nat → Nat) (n i : Nat) : Prop := I 336 10 = nI (skG t n i) ∧ TK I t n (skG t n i) ∧ I 336 12 = if decide (skG t n i = i ∧ (isL t n i = true ∨ isD t n i = true)) then nI (skG t n i) else -1
theorem r_next {I : MI} {i : Nat} {Q : MI → Prop} (hT : RT I t n) (h8 : I 336 8 = nI i) (hi : i ≤ n) (h0 : 0 < i) (hp : isL t n (i - 1) = true ∨ isD t n (i - 1) = true) (h12 : I 336 12 = -1) (hQ : ∀ I', FQ I I' → NT I' t n i → Q I') : wp_X10_nextToken I Q := by
  refine r_nextToken hT h8 hi (fun I' f a b c _ => hQ I' f ⟨a, b, ?_⟩)
  rw [c h12]
  have : adjB t n i = decide (skG t n i = i ∧ (isL t n i = true ∨ isD t n i = true)) := by
    unfold adjB
    rw [Bool.eq_iff_iff]
    simp only [decide_eq_true_eq]
    exact ⟨fun q => ⟨q.1, q.2.2.1⟩, fun q => ⟨q.1, h0, q.2, hp⟩⟩
  rw [this]
theorem lt_m1 {h x : Nat} (hh : h < 2 ^ 30) (hx : x < 2 ^ 30) : nI h - 1 < nI x ↔ h ≤ x := by
  cases h with
  | zero =>
    refine ⟨fun _ => Nat.zero_le _, fun _ => ?_⟩
    rw [nI_0, Int32.lt_iff_toInt_lt, nI_toInt (by omega)]
    have : ((0 : Int32) - 1).toInt = -1 := by decide
    omega
  | succ h =>
    rw [nI_pred, nI_ltI (by omega) (by omega)]
    omega
theorem r_numF {I : MI} {x1 x2 : Int32} {Q : Int32 → MI → Prop} (h : ¬ I 336 12 = -1) (hQ : Q 0 I) : wp_X10_number I x1 x2 Q := by
  unfold wp_X10_number jn_X10_number_36
  exact ⟨fun _ => ⟨fun w => absurd w h, fun _ => hQ⟩, fun w => absurd w h⟩
theorem r_num {I : MI} {i : Nat} {b : Nat × Nat} {x1 x2 : Int32} {Q : Int32 → MI → Prop} (hT : RT I t n) (hN : NT I t n i) (hi : i ≤ n) (hx1 : x1 = nI b.1) (hx2 : x2 = nI b.2 - 1) (hb1 : b.1 ≤ 1) (hb2 : b.2 ≤ 31) (h1 : okN t n i b = true → ∀ I', FQ I I' → NT I' t n (skD t n (skG t n i)) → Q (nI (dv t (skG t n i) (skD t n (skG t n i)))) I') (h0 : okN t n i b = false → ∀ x I', FQ I I' → I' 336 12 = nI (skG t n i) → Q x I') : wp_X10_number I x1 x2 Q := by
  have hn := hT.1
  have g := skG_f (t := t) hi
  have dd := skD_f (t := t) g.2.1
  obtain ⟨n10, ntk, n12⟩ := hN
  have hnm := nI_nm (k := skG t n i) (by omega)
  by_cases hadj : skG t n i = i ∧ (isL t n i = true ∨ isD t n i = true)
  · rw [decide_eq_true hadj] at n12
    simp only [if_true] at n12
    refine r_numF (by rw [n12]; exact hnm) (h0 ?_ 0 I FQ.rf n12)
    unfold okN
    exact decide_eq_false (fun q => q.1 hadj.1)
  · rw [decide_eq_false hadj] at n12
    simp only [Bool.false_eq_true, if_false] at n12
    have wr : okN t n i b = false → jn_X10_number_28 I Q := by
      intro ho
      unfold jn_X10_number_28 wp_X10_wrong jn_X10_number_36
      rw [n12, n10]
      refine ⟨fun w => absurd rfl w, fun _ I2 e2 => ⟨fun w => ?_, fun _ => h0 ho 0 I2 (FQ.u e2 (by omega) (by omega)) (by rw [e2, u2_s])⟩⟩
      rw [e2, u2_s] at w
      exact absurd w hnm
    unfold wp_X10_number
    rw [n12]
    refine ⟨fun w => absurd rfl w, fun _ => ?_⟩
    cases hD : isD t n (skG t n i) with
    | false =>
      have ho : okN t n i b = false := by
        unfold okN
        exact decide_eq_false (fun q => by rw [hD] at q; exact absurd q.2.1 (by decide))
      have n9 : ¬ I 336 9 = 2 := by
        intro w
        rcases Nat.lt_or_ge (skG t n i) n with hlt | hge
        · cases hL : isL t n (skG t n i) with
          | true => rw [(ntk.2.1 hL).1] at w; exact absurd w (by decide)
          | false => rw [(ntk.2.2.2 hlt hL hD).1] at w; exact absurd w (by decide)
        · rw [(ntk.1 (by omega)).1] at w; exact absurd w (by decide)
      exact ⟨fun _ => wr ho, fun w => absurd w n9⟩
    | true =>
      obtain ⟨t9, t8, ta, tb⟩ := ntk.2.2.1 hD
      have hd0 := of_decide_eq_true hD
      have hsi : skG t n i ≠ i := fun q => hadj ⟨q, Or.inr (by rw [q] at hD; exact hD)⟩
      rw [t9]
      refine ⟨fun w => absurd rfl w, fun _ => ?_⟩
      unfold wp_X10_isIn
      rcases Nat.lt_or_ge (skG t n i + 2) (skD t n (skG t n i)) with hlong | hshort
      · have ho : okN t n i b = false := by unfold okN; exact decide_eq_false (fun q => by omega)
        rw [tb hlong, hx1, hx2]
        refine ⟨fun w => ⟨fun u => absurd rfl u, fun _ => wr ho⟩, fun _ => ⟨fun w => ⟨fun u => absurd rfl u, fun _ => wr ho⟩, fun w => absurd ?_ w⟩⟩
        exact (lt_m1 (h := b.2) (x := 1000) (by omega) (by omega)).mpr (by omega)
      · have hx : dv t (skG t n i) (skD t n (skG t n i)) < 100 := by
          unfold dv
          by_cases q : skD t n (skG t n i) = skG t n i + 1
          · rw [if_pos q]; omega
          · rw [if_neg q]
            have hlt : skG t n i < skD t n (skG t n i) := by
              have e := sk_yes (n := n) hD (isD_lt hD)
              have := skD_f (t := t) (n := n) (i := skG t n i + 1) (by omega)
              have e' : skD t n (skG t n i) = skD t n (skG t n i + 1) := e
              omega
            have := of_decide_eq_true (dd.2.2.2 (skG t n i + 1) (by omega) (by omega))
            omega
        have hlt : skG t n i < skD t n (skG t n i) := by
          have e := sk_yes (n := n) hD (isD_lt hD)
          have := skD_f (t := t) (n := n) (i := skG t n i + 1) (by omega)
          have e' : skD t n (skG t n i) = skD t n (skG t n i + 1) := e
          omega
        rw [ta hshort, hx1, hx2]
        refine pk_lt (dv t (skG t n i) (skD t n (skG t n i))) b.1 (fun w => ⟨fun u => absurd rfl u, fun _ => wr ?_⟩) (fun w => ⟨fun u => ⟨fun v => absurd rfl v, fun _ => wr ?_⟩, fun u => ⟨fun _ => ?_, fun v => absurd v (by decide)⟩⟩)
        · unfold okN; exact decide_eq_false (fun q => by omega)
        · have := (lt_m1 (by omega) (by omega)).mp u
          unfold okN; exact decide_eq_false (fun q => by omega)
        · have hu : ¬ b.2 ≤ dv t (skG t n i) (skD t n (skG t n i)) := fun q => u ((lt_m1 (by omega) (by omega)).mpr q)
          unfold jn_X10_number_36
          rw [n12, ta hshort]
          refine ⟨fun _ => ?_, fun v => absurd rfl v⟩
          refine r_next hT t8 dd.2.1 (by omega) (Or.inr (dd.2.2.2 _ (by omega) (by omega))) n12 (fun I' f' hN' => h1 ?_ I' f' hN')
          unfold okN
          exact decide_eq_true ⟨hsi, hD, hshort, w, by omega⟩
end RREAD
