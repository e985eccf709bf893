/-! the class reads a text -/
def sb (b : Nat) : Int32 := (nI b).toInt8.toInt32
theorem sbF : ∀ b, b < 256 → ((sb b = 32 ↔ b = 32) ∧ (sb b = 10 ↔ b = 10) ∧ (sb b = 59 ↔ b = 59) ∧ ((¬ sb b < 97 ∧ ¬ 122 < sb b) ↔ (97 ≤ b ∧ b ≤ 122)) ∧ ((¬ sb b < 48 ∧ ¬ 57 < sb b) ↔ (48 ≤ b ∧ b ≤ 57))) := by decide +kernel
theorem sbD : ∀ b, b < 58 → 48 ≤ b → sb b - 48 = nI (b - 48) := by decide +kernel
theorem sbP : ∀ b, b < 128 → sb b = nI b := by decide +kernel
theorem sbM : ∀ b, b < 256 → 128 ≤ b → sb b < 0 := by decide +kernel
theorem sbC {b c : Nat} (hb : b < 256) (hc : c < 128) : sb b = nI c ↔ b = c := by
  by_cases h : b < 128
  · rw [sbP b h]
    exact nI_eq (by omega) (by omega)
  · constructor
    · intro e
      have := sbM b hb (by omega)
      rw [e] at this
      exact absurd this (nI_pos (by omega))
    · intro e; omega
/-- the class's tape -/
def CT (I : MI) (t : Nat → Nat) (n : Nat) : Prop := n ≤ 400 ∧ ∀ k, k < n → t k < 256 ∧ I 1 k = sb (t k)
def FA (I I' : MI) : Prop := ∀ k s, ¬ (k = 312 ∧ s = 4) → I' k s = I k s
theorem FA.rf {I : MI} : FA I I := fun _ _ _ => rfl
theorem FA.tr {I J K : MI} (h : FA I J) (h2 : FA J K) : FA I K := fun k s hs => (h2 k s hs).trans (h k s hs)
theorem FA.u {I I' : MI} {v : Int32} (e : I' = u2 I 312 4 v) : FA I I' := fun k s hs => by rw [e, u2_at, if_neg hs]
theorem CT.fr {I I' : MI} {t : Nat → Nat} {n : Nat} (h : CT I t n) (f : ∀ s, I' 1 s = I 1 s) : CT I' t n := ⟨h.1, fun k hk => ⟨(h.2 k hk).1, by rw [f]; exact (h.2 k hk).2⟩⟩
theorem FA.ct {I I' : MI} {t : Nat → Nat} {n : Nat} (f : FA I I') (h : CT I t n) : CT I' t n := h.fr (fun s => f 1 s (by omega))
section CREAD
variable {t : Nat → Nat} {n : Nat}
theorem c_skip {I : MI} {i : Nat} {Q : MI → Prop} (hT : CT I t n) (h3 : I 312 3 = nI n) (h4 : I 312 4 = nI i) (hi : i ≤ n) (hQ : ∀ I', FA I I' → I' 312 4 = nI (skG t n i) → Q I') : wp_X3_skipGaps I Q := by
  have hn := hT.1
  have key : ∀ (m j : Nat) (J : MI), j + m = n → FA I J → J 312 4 = nI j → skG t n j = skG t n i → lp_X3_skipGaps_0 Q (m + 1) J := by
    intro m
    induction m with
    | zero =>
      intro j J hj f e4 hk
      have e3 : J 312 3 = nI n := by rw [f 312 3 (by omega)]; exact h3
      have hf : isG t n j = false := by unfold isG; simp; omega
      unfold lp_X3_skipGaps_0
      rw [e3, e4]
      exact ⟨fun _ => hQ J f (by rw [e4, ← hk, show skG t n j = j from sk_no hf]), fun z => absurd (nI_le (by omega) (by omega)) z⟩
    | succ m ih =>
      intro j J hj f e4 hk
      have hjl : j < n := by omega
      have e3 : J 312 3 = nI n := by rw [f 312 3 (by omega)]; exact h3
      have b := hT.2 j hjl
      have eb : J 1 j = sb (t j) := by rw [f 1 j (by omega)]; exact b.2
      obtain ⟨s1, s2, _⟩ := sbF (t j) b.1
      have yes : isG t n j = true → jn_X3_skipGaps_39 J (fun I5 => (lp_X3_skipGaps_0 Q (m + 1) I5)) := by
        intro g
        unfold jn_X3_skipGaps_39
        intro J4 e
        rw [e4, nI_1] at e
        exact ih (j + 1) J4 (by omega) (f.tr (FA.u e)) (by rw [e, u2_s]) (by rw [← hk]; exact (sk_yes g hjl).symm)
      have no : isG t n j = false → Q J := fun g => hQ J f (by rw [e4, ← hk, show skG t n j = j from sk_no g])
      unfold lp_X3_skipGaps_0
      rw [e3, e4, ix_nI (by omega), eb]
      refine ⟨fun z => absurd z (nI_ge (by omega) (by omega)), fun _ => ⟨vp_in_nI (by omega) (by omega), fun z => yes ?_, fun z => ⟨vp_in_nI (by omega) (by omega), fun w => no ?_, fun w => yes ?_⟩⟩⟩
      · have := s1.mp z
        unfold isG; simp; omega
      · have a : ¬ t j = 32 := fun g => z (s1.mpr g)
        have b : ¬ t j = 10 := fun g => w (s2.mpr g)
        unfold isG; simp; omega
      · have := s2.mp w
        unfold isG; simp; omega
  unfold wp_X3_skipGaps
  exact ⟨n - i + 1, key (n - i) i I (by omega) FA.rf h4 rfl⟩
theorem c_letters {I : MI} {i : Nat} {kf : MI → Prop} (hT : CT I t n) (h3 : I 312 3 = nI n) (h4 : I 312 4 = nI i) (hi : i ≤ n) (hQ : ∀ I', FA I I' → I' 312 4 = nI (skL t n i) → kf I') : ∃ N, lp_X3_readWord_5 kf N I := by
  have hn := hT.1
  have key : ∀ (m j : Nat) (J : MI), j + m = n → FA I J → J 312 4 = nI j → skL t n j = skL t n i → lp_X3_readWord_5 kf (m + 1) J := by
    intro m
    induction m with
    | zero =>
      intro j J hj f e4 hk
      have e3 : J 312 3 = nI n := by rw [f 312 3 (by omega)]; exact h3
      have hf : isL t n j = false := by unfold isL; simp; omega
      unfold lp_X3_readWord_5
      rw [e3, e4]
      exact ⟨fun _ => hQ J f (by rw [e4, ← hk, show skL t n j = j from sk_no hf]), fun z => absurd (nI_le (by omega) (by omega)) z⟩
    | succ m ih =>
      intro j J hj f e4 hk
      have hjl : j < n := by omega
      have e3 : J 312 3 = nI n := by rw [f 312 3 (by omega)]; exact h3
      have b := hT.2 j hjl
      have eb : J 1 j = sb (t j) := by rw [f 1 j (by omega)]; exact b.2
      obtain ⟨-, -, -, s4, -⟩ := sbF (t j) b.1
      have no : isL t n j = false → kf J := fun g => hQ J f (by rw [e4, ← hk, show skL t n j = j from sk_no g])
      unfold lp_X3_readWord_5
      rw [e3, e4, ix_nI (by omega), eb]
      refine ⟨fun z => absurd z (nI_ge (by omega) (by omega)), fun _ => ⟨vp_in_nI (by omega) (by omega), fun z => no ?_, fun z => ⟨vp_in_nI (by omega) (by omega), fun w => no ?_, fun w J6 e => ?_⟩⟩⟩
      · have : ¬ (97 ≤ t j ∧ t j ≤ 122) := fun g => (s4.mpr g).1 z
        unfold isL; simp; omega
      · have : ¬ (97 ≤ t j ∧ t j ≤ 122) := fun g => (s4.mpr g).2 w
        unfold isL; simp; omega
      · have g : isL t n j = true := by
          have := s4.mp ⟨z, w⟩
          unfold isL; simp; omega
        rw [nI_1] at e
        exact ih (j + 1) J6 (by omega) (f.tr (FA.u e)) (by rw [e, u2_s]) (by rw [← hk]; exact (sk_yes g hjl).symm)
  exact ⟨n - i + 1, key (n - i) i I (by omega) FA.rf h4 rfl⟩
theorem wordT : ∀ w, w < 7 → tLen (1010 + w) = (wl w).length ∧ (wl w).length ≤ 7 ∧ ∀ k, k < 7 → k < (wl w).length → tAt (1010 + w) k = nI ((wl w).getD k 0) ∧ (wl w).getD k 0 < 128 := by decide +kernel
theorem c_isSpelled {I : MI} {s e w : Nat} {Q : Int32 → Prop} (hT : CT I t n) (h4 : I 312 4 = nI e) (hse : s ≤ e) (hen : e ≤ n) (hw : w < 7) (h1 : isW t s e w = true → Q 1) (h0 : isW t s e w = false → Q 0) : wp_X3_isSpelled I (1010 + w) (nI s) Q := by
  have hn := hT.1
  obtain ⟨a1, a2, a3⟩ := wordT w hw
  have hx : isTxt (1010 + w) := ⟨by omega, by omega⟩
  unfold wp_X3_isSpelled
  rw [h4, pk_sub hse, a1]
  refine ⟨hx, pk_eq (e - s) (wl w).length (fun z => ?_) (fun z => h0 ?_)⟩
  · have key : ∀ (m k : Nat), k + m = (wl w).length → (∀ q, q < k → t (s + q) = (wl w).getD q 0) → lp_X3_isSpelled_17 I (1010 + w) (nI s) Q (m + 1) (nI k) := by
      intro m
      induction m with
      | zero =>
        intro k hk hq
        unfold lp_X3_isSpelled_17
        rw [a1]
        refine ⟨hx, fun _ => h1 ?_, fun z => absurd (nI_le (by omega) (by omega)) z⟩
        unfold isW
        exact decide_eq_true ⟨by omega, fun q hq' => hq q (by omega)⟩
      | succ m ih =>
        intro k hk hq
        have b := hT.2 (s + k) (by omega)
        have c := a3 k (by omega) (by omega)
        unfold lp_X3_isSpelled_17
        rw [a1, nI_add, ix_nI (by omega), ix_nI (by omega), b.2, c.1]
        refine ⟨hx, fun z => absurd z (nI_ge (by omega) (by omega)), fun _ => ⟨vp_in_nI (by omega) (by omega), hx, vp_in_nI (by omega) (by omega), fun z => ?_, fun z => h0 ?_⟩⟩
        · have := (sbC b.1 c.2).mp z
          rw [nI_1]
          refine ih (k + 1) (by omega) (fun q hq' => ?_)
          by_cases hqk : q = k
          · rw [hqk]; exact this
          · exact hq q (by omega)
        · unfold isW
          refine decide_eq_false (fun g => z ((sbC b.1 c.2).mpr (g.2 k (by omega))))
    refine ⟨(wl w).length + 1, ?_⟩
    rw [← nI_0]
    exact key (wl w).length 0 (by omega) (fun q hq => absurd hq (by omega))
  · unfold isW
    exact decide_eq_false (fun g => z (by omega))
def spV (v : Int32) : Nat := if v = 0 then 1010 else if v = 1 then 1011 else if v = 2 then 1012 else if v = 3 then 1013 else if v = 4 then 1014 else if v = 5 then 1015 else 1016
theorem spV_w : ∀ w, w < 7 → spV (nI w) = 1010 + w := by decide +kernel
theorem c_spelled {w : Nat} {Q : Nat → Prop} (hw : w < 7) (h : Q (1010 + w)) : wp_X7_spelled (nI w) Q := by
  rw [← spV_w w hw] at h
  unfold spV at h
  unfold wp_X7_spelled
  exact wi h id (fun h => wi h id (fun h => wi h id (fun h => wi h id (fun h => wi h id (fun h => wi h id id)))))
theorem c_readWord {I : MI} {s : Nat} {Q : Int32 → MI → Prop} (hT : CT I t n) (h3 : I 312 3 = nI n) (h4 : I 312 4 = nI s) (hs : s ≤ n) (h1 : ∀ I' w, FA I I' → I' 312 4 = nI (skL t n s) → wdF t s (skL t n s) 7 0 = some w → Q (nI w) I') (h0 : ∀ I', FA I I' → wdF t s (skL t n s) 7 0 = none → Q (-1) I') : wp_X3_readWord I Q := by
  have l := skL_f (t := t) hs
  unfold wp_X3_readWord
  refine c_letters hT h3 h4 hs (fun I' f e4 => ?_)
  rw [h4]
  unfold jn_X3_readWord_57
  refine ⟨8, ?_⟩
  have key : ∀ (m w : Nat), w + m = 7 → wdF t s (skL t n s) m w = wdF t s (skL t n s) 7 0 → lp_X3_readWord_59 I' (nI s) Q (m + 1) (nI w) := by
    intro m
    induction m with
    | zero =>
      intro w hw hd
      unfold lp_X3_readWord_59
      refine ⟨fun _ => h0 I' f hd.symm, fun z => absurd ?_ z⟩
      rw [show (7 : Int32) = nI 7 from rfl]
      exact nI_le (by omega) (by omega)
    | succ m ih =>
      intro w hw hd
      unfold lp_X3_readWord_59
      rw [show (7 : Int32) = nI 7 from rfl]
      unfold wdF at hd
      refine ⟨fun z => absurd z (nI_ge (by omega) (by omega)), fun _ => c_spelled (by omega) (c_isSpelled (f.ct hT) e4 l.1 l.2.1 (by omega) (fun z => ?_) (fun z => ?_))⟩
      · rw [z] at hd
        simp only [if_true] at hd
        exact ⟨fun g => absurd g (by decide), fun _ => h1 I' w f e4 hd.symm⟩
      · rw [z] at hd
        simp only [Bool.false_eq_true, if_false] at hd
        refine ⟨fun _ => ?_, fun g => absurd rfl g⟩
        rw [nI_1]
        exact ih (w + 1) (by omega) hd
  rw [← nI_0]
  exact key 7 0 (by omega) rfl
theorem fstT : ∀ w, w < 7 → (wTab.getD 1 []).getD w 0 = nI (fstN w) ∧ (wTab.getD 0 []).getD w 0 = nI (numN w) ∧ fstN w + numN w ≤ 14 ∧ numN w ≤ 5 := by decide +kernel
theorem bdT1 : ∀ p, p < 14 → (wTab.getD 2 []).getD p 0 = nI (lowN p) ∧ lowN p ≤ 1 := by decide +kernel
theorem bdT2 : ∀ p, p < 14 → p = 7 ∨ p = 8 ∨ p = 12 ∨ ((wTab.getD 3 []).getD p 0 = nI (hghN p - 1) ∧ 1 ≤ hghN p ∧ hghN p ≤ 31) := by decide +kernel
theorem bdT {p : Nat} (hp : p < 14) : (wTab.getD 2 []).getD p 0 = nI (lowN p) ∧ lowN p ≤ 1 ∧ (p = 7 → (wTab.getD 3 []).getD p 0 = -1) ∧ ((p = 8 ∨ p = 12) → (wTab.getD 3 []).getD p 0 = -2) ∧ (p ≠ 7 → p ≠ 8 → p ≠ 12 → (wTab.getD 3 []).getD p 0 = nI (hghN p - 1) ∧ 1 ≤ hghN p ∧ hghN p ≤ 31) ∧ ((p = 7 ∨ p = 8 ∨ p = 12) → lowN p = 0) := by
  obtain ⟨a1, a2⟩ := bdT1 p hp
  refine ⟨a1, a2, fun e => by rw [e]; rfl, fun e => ?_, fun h7 h8 h12 => ?_, fun e => ?_⟩
  · rcases e with e | e <;> rw [e] <;> rfl
  · rcases bdT2 p hp with e | e | e | e
    · exact absurd e h7
    · exact absurd e h8
    · exact absurd e h12
    · exact e
  · rcases e with e | e | e <;> rw [e] <;> rfl
theorem c_fits {I : MI} {B : St} {w i x : Nat} {Q : Int32 → Prop} (hP : PR 313 I B) (hs1 : sN B 1 0 ≤ 3) (hs2 : sN B 1 1 ≤ 3) (hw : w < 7) (hi : i < numN w) (hx : x < 100) (h1 : (bd B (fstN w + i)).1 ≤ x → x < (bd B (fstN w + i)).2 → Q 1) (h0 : ¬ ((bd B (fstN w + i)).1 ≤ x ∧ x < (bd B (fstN w + i)).2) → Q 0) : wp_X7_fits 313 I (nI w) (nI i) (nI x) Q := by
  obtain ⟨f1, f2, f3, f4⟩ := fstT w hw
  have hp : fstN w + i < 14 := by omega
  obtain ⟨b1, b2, b3, b4, b5, b6⟩ := bdT hp
  unfold wp_X7_fits
  rw [ix_nI (n := w) (by omega), f1, nI_add, ix_nI (n := fstN w + i) (by omega), b1]
  have vp : vp_in (nI (fstN w + i)) 14 := vp_in_nI hp (by omega)
  refine ⟨fun z => absurd z (nI_pos (by omega)), fun _ => ⟨fun _ => ⟨vp_in_nI hw (by omega), fun z => absurd z (nI_pos (by omega)), fun _ => ⟨fun z => absurd z ?_, fun _ => ⟨fun _ => ⟨vp, ?_⟩, fun z => absurd ?_ z⟩⟩⟩, fun z => absurd ?_ z⟩⟩
  · rw [show (14 : Int32) = nI 14 from rfl]; exact nI_ge hp (by omega)
  · by_cases h7 : fstN w + i = 7
    · have e := b3 h7
      have lo := b6 (Or.inl h7)
      rw [e]
      refine ⟨fun z => absurd rfl z, fun _ => ?_⟩
      have eb : (bd B (fstN w + i)).2 = sN B 1 1 := by unfold bd; rw [h7]; rfl
      have el : (bd B (fstN w + i)).1 = 0 := by unfold bd; exact lo
      rw [eb, el] at h1 h0
      refine c_hasBase hP hs2 (fun ⟨q, hq, eq⟩ => ⟨Or.inr rfl, h1 (by omega) ?_⟩) (fun z => ⟨Or.inl rfl, h0 (fun g => z ⟨x, g.2, rfl⟩)⟩)
      have := (nI_eq (by omega) (by omega)).mp eq
      omega
    · by_cases h8 : fstN w + i = 8 ∨ fstN w + i = 12
      · have e := b4 h8
        have lo := b6 (Or.inr h8)
        rw [e]
        refine ⟨fun _ => ⟨vp, fun z => absurd rfl z, fun _ => ?_⟩, fun z => absurd z (by decide)⟩
        have eb : (bd B (fstN w + i)).2 = sN B 1 0 := by unfold bd; simp only; rw [if_neg h7, if_pos h8]
        have el : (bd B (fstN w + i)).1 = 0 := by unfold bd; exact lo
        rw [eb, el] at h1 h0
        refine c_hasPart hP hs1 (fun ⟨q, hq, eq⟩ => ⟨Or.inr rfl, h1 (by omega) ?_⟩) (fun z => ⟨Or.inl rfl, h0 (fun g => z ⟨x, g.2, rfl⟩)⟩)
        have := (nI_eq (by omega) (by omega)).mp eq
        omega
      · obtain ⟨e, e1, e2⟩ := b5 h7 (by omega) (by omega)
        rw [e]
        have eb : (bd B (fstN w + i)).2 = hghN (fstN w + i) := by unfold bd; simp only; rw [if_neg h7, if_neg h8]
        have el : (bd B (fstN w + i)).1 = lowN (fstN w + i) := rfl
        rw [eb, el] at h1 h0
        have ne2 : ¬ nI (hghN (fstN w + i) - 1) = -2 := fun g => by
          have := nI_pos' (n := hghN (fstN w + i) - 1) (by omega)
          rw [g] at this
          exact absurd this (by decide)
        refine ⟨fun _ => ⟨vp, fun _ => ⟨vp, pk_lt x (lowN (fstN w + i)) (fun z => h0 (by omega)) (fun z => ⟨vp, pk_lt (hghN (fstN w + i) - 1) x (fun u => h0 (by omega)) (fun u => h1 z (by omega))⟩)⟩, fun z => absurd z ne2⟩, fun z => absurd z (nI_nm (by omega))⟩
  · rw [show (14 : Int32) = nI 14 from rfl]; exact nI_lt hp (by omega)
  · rw [show (7 : Int32) = nI 7 from rfl]; exact nI_lt hw (by omega)
/-- one number is read: its place alone and the place of reading change -/
def FN (I I' : MI) : Prop := ∀ k s, ¬ (k = 312 ∧ s = 4) → k ≠ 322 → I' k s = I k s
theorem FA.fn {I I' : MI} (h : FA I I') : FN I I' := fun k s a _ => h k s a
theorem FN.tr {I J K : MI} (h : FN I J) (h2 : FN J K) : FN I K := fun k s a b => (h2 k s a b).trans (h k s a b)
theorem FN.ct {I I' : MI} (f : FN I I') (h : CT I t n) : CT I' t n := h.fr (fun s => f 1 s (by omega) (by omega))
theorem FN.pr {I I' : MI} {B : St} (f : FN I I') (h : PR 313 I B) : PR 313 I' B := fun j i hn hj => by rw [f (313 + j) i (by omega) (by omega)]; exact h j i hn hj
theorem c_digits {I : MI} {s : Nat} {kf : Int32 → MI → Prop} (hT : CT I t n) (h3 : I 312 3 = nI n) (h4 : I 312 4 = nI s) (hs : s ≤ n) (hQ : ∀ v I', FA I I' → I' 312 4 = nI (skD t n s) → (s < skD t n s → skD t n s ≤ s + 2 → v = nI (dv t s (skD t n s))) → kf v I') : ∃ N, lp_X3_readNumber_27 kf N 0 I := by
  have hn := hT.1
  have key : ∀ (m j : Nat) (v : Int32) (J : MI), j + m = n → s ≤ j → FA I J → J 312 4 = nI j → skD t n j = skD t n s → (j = s → v = 0) → (j = s + 1 → v = nI (t s - 48)) → (j = s + 2 → v = nI (10 * (t s - 48) + (t (s + 1) - 48))) → lp_X3_readNumber_27 kf (m + 1) v J := by
    have fin : ∀ (j : Nat) (v : Int32) (J : MI), s ≤ j → FA I J → J 312 4 = nI j → skD t n j = skD t n s → skD t n j = j → (j = s + 1 → v = nI (t s - 48)) → (j = s + 2 → v = nI (10 * (t s - 48) + (t (s + 1) - 48))) → kf v J := by
      intro j v J hsj f e4 hk hkj v1 v2
      refine hQ v J f (by rw [e4, ← hk, hkj]) (fun a b => ?_)
      rw [← hk, hkj] at a b ⊢
      unfold dv
      by_cases h1 : j = s + 1
      · rw [if_pos h1]; exact v1 h1
      · rw [if_neg h1]; exact v2 (by omega)
    intro m
    induction m with
    | zero =>
      intro j v J hj hsj f e4 hk v0 v1 v2
      have e3 : J 312 3 = nI n := by rw [f 312 3 (by omega)]; exact h3
      have hf : isD t n j = false := by unfold isD; simp; omega
      unfold lp_X3_readNumber_27
      rw [e3, e4]
      exact ⟨fun _ => fin j v J hsj f e4 hk (sk_no hf) v1 v2, fun z => absurd (nI_le (by omega) (by omega)) z⟩
    | succ m ih =>
      intro j v J hj hsj f e4 hk v0 v1 v2
      have hjl : j < n := by omega
      have e3 : J 312 3 = nI n := by rw [f 312 3 (by omega)]; exact h3
      have b := hT.2 j hjl
      have eb : J 1 j = sb (t j) := by rw [f 1 j (by omega)]; exact b.2
      obtain ⟨-, -, -, -, s5⟩ := sbF (t j) b.1
      unfold lp_X3_readNumber_27
      rw [e3, e4, ix_nI (by omega), eb]
      refine ⟨fun z => absurd z (nI_ge (by omega) (by omega)), fun _ => ⟨vp_in_nI (by omega) (by omega), fun z => fin j v J hsj f e4 hk (sk_no ?_) v1 v2, fun z => ⟨vp_in_nI (by omega) (by omega), fun w => fin j v J hsj f e4 hk (sk_no ?_) v1 v2, fun w => ⟨vp_in_nI (by omega) (by omega), fun J9 e => ?_⟩⟩⟩⟩
      · have : ¬ (48 ≤ t j ∧ t j ≤ 57) := fun g => (s5.mpr g).1 z
        unfold isD; simp; omega
      · have : ¬ (48 ≤ t j ∧ t j ≤ 57) := fun g => (s5.mpr g).2 w
        unfold isD; simp; omega
      · have hd := s5.mp ⟨z, w⟩
        have g : isD t n j = true := by unfold isD; simp; omega
        rw [nI_1] at e
        rw [sbD (t j) (by omega) hd.1]
        refine ih (j + 1) _ J9 (by omega) (by omega) (f.tr (FA.u e)) (by rw [e, u2_s]) (by rw [← hk]; exact (sk_yes g hjl).symm) (fun q => by omega) (fun q => ?_) (fun q => ?_)
        · have : j = s := by omega
          rw [v0 this, this]
          rw [show (0 : Int32) * 10 = nI 0 from by decide, nI_add, Nat.zero_add]
        · have : j = s + 1 := by omega
          rw [v1 this, this, show (10 : Int32) = nI 10 from rfl, pk_mul, nI_add, Nat.mul_comm]
  exact ⟨n - s + 1, key (n - s) s 0 I (by omega) (Nat.le_refl _) FA.rf h4 rfl (fun _ => rfl) (fun q => by omega) (fun q => by omega)⟩
theorem c_readNumber {I : MI} {B : St} {w i a : Nat} {Q : Int32 → MI → Prop} (hT : CT I t n) (h3 : I 312 3 = nI n) (h4 : I 312 4 = nI a) (ha : a ≤ n) (hP : PR 313 I B) (hs1 : sN B 1 0 ≤ 3) (hs2 : sN B 1 1 ≤ 3) (hw : w < 7) (hi : i < numN w)
    (h1 : okN t n a (bd B (fstN w + i)) = true → ∀ I', FN I I' → (∀ q, q ≠ i → I' 322 q = I 322 q) → I' 322 i = nI (dv t (skG t n a) (skD t n (skG t n a))) → I' 312 4 = nI (skD t n (skG t n a)) → Q (-1) I') (h0 : okN t n a (bd B (fstN w + i)) = false → ∀ I', FN I I' → Q (nI (skG t n a)) I') : wp_X3_readNumber I (nI w) (nI i) Q := by
  have hn := hT.1
  have g := skG_f (t := t) ha
  have dd := skD_f (t := t) g.2.1
  have hi5 := (fstT w hw).2.2.2
  unfold wp_X3_readNumber
  refine c_skip hT h3 h4 ha (fun I1 f1 e1 => ?_)
  rw [h4, e1]
  refine (pk_eq (skG t n a) a (fun z => h0 ?_ I1 f1.fn) (fun z => ?_)).symm
  · unfold okN
    exact decide_eq_false (fun q => q.1 z)
  · refine c_digits (f1.ct hT) (by rw [f1 312 3 (by omega)]; exact h3) e1 g.2.1 (fun v I2 f2 e2 hv => ?_)
    have f12 := f1.tr f2
    unfold jn_X3_readNumber_99
    rw [e2, pk_sub dd.1]
    refine pk_lt (skD t n (skG t n a) - skG t n a) 1 (fun u => h0 ?_ I2 f12.fn) (fun u => pk_lt 2 (skD t n (skG t n a) - skG t n a) (fun x => h0 ?_ I2 f12.fn) (fun x => ?_))
    · have hf : isD t n (skG t n a) = false := by
        rcases Bool.eq_false_or_eq_true (isD t n (skG t n a)) with q | q
        · have e := sk_yes (n := n) q (isD_lt q)
          have := skD_f (t := t) (n := n) (i := skG t n a + 1) (by have := isD_lt q; omega)
          have e' : skD t n (skG t n a) = skD t n (skG t n a + 1) := e
          omega
        · exact q
      unfold okN
      exact decide_eq_false (fun q => by rw [hf] at q; exact absurd q.2.1 (by decide))
    · unfold okN
      exact decide_eq_false (fun q => by omega)
    · have hdg : isD t n (skG t n a) = true := dd.2.2.2 _ (Nat.le_refl _) (by omega)
      have hvv := hv (by omega) (by omega)
      have hd0 := of_decide_eq_true hdg
      have hx : dv t (skG t n a) (skD t n (skG t n a)) < 100 := by
        unfold dv
        by_cases q : skD t n (skG t n a) = skG t n a + 1
        · rw [if_pos q]; omega
        · rw [if_neg q]
          have := of_decide_eq_true (dd.2.2.2 (skG t n a + 1) (by omega) (by omega))
          omega
      rw [hvv]
      refine c_fits (f12.fn.pr hP) hs1 hs2 hw hi hx (fun a1 a2 => ⟨fun _ => ⟨fun y => absurd y (nI_pos (by omega)), fun _ => ⟨fun y => absurd y ?_, fun _ => ⟨vp_in_nI (by omega) (by omega), fun I20 e20 => ?_⟩⟩⟩, fun y => absurd y (by decide)⟩) (fun a1 => ⟨fun y => absurd rfl y, fun _ => h0 ?_ I2 f12.fn⟩)
      · rw [show (5 : Int32) = nI 5 from rfl]; exact nI_ge (by omega) (by omega)
      · rw [ix_nI (by omega)] at e20
        refine h1 ?_ I20 (fun k s b c => by rw [e20, u2_ne c]; exact f12 k s b) (fun q hq => by rw [e20, u2_n2 hq]; exact f12 322 q (by omega)) (by rw [e20, u2_s]) (by rw [e20, u2_ne (by omega)]; exact e2)
        unfold okN
        exact decide_eq_true ⟨z, hdg, by omega, a1, a2⟩
      · unfold okN
        exact decide_eq_false (fun q => a1 q.2.2.2)
end CREAD
