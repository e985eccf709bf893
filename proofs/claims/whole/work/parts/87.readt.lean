/-! the reference reads lines and the whole; both texts -/
section RREAF
variable {t : Nat → Nat} {n : Nat}
def LT (I : MI) (t : Nat → Nat) (n i : Nat) : Prop := I 336 10 = nI (skG t n i) ∧ TK I t n (skG t n i) ∧ I 336 12 = -1
theorem r_tail {I I0 : MI} {B : St} {w i : Nat} {r : Sum Nat (List Nat × Nat)} {Q : MI → Prop} (hT : RT I t n) (hN : NS I t n B w r) (hl : ∀ f, r = .inl f → f ≤ n) (hr : ∀ q, r = .inr q → q.2 ≤ n) (f0 : FL I0 I)
    (h0 : ∀ f I', (match r with | .inl f => (.inl f : Sum Nat (St × Nat)) | .inr q => if isS t n (skG t n q.2) then .inr (takeW B w q.1, skG t n q.2 + 1) else .inl (skG t n q.2)) = .inl f → FL I0 I' → I' 336 12 = nI f → Q I')
    (h1 : ∀ s I', (match r with | .inl f => (.inl f : Sum Nat (St × Nat)) | .inr q => if isS t n (skG t n q.2) then .inr (takeW B w q.1, skG t n q.2 + 1) else .inl (skG t n q.2)) = .inr s → FL I0 I' → RR I' s.1 [] → LT I' t n s.2 → Q I') : jn_X10_readLine_136 I Q := by
  have hn := hT.1
  cases r with
  | inl f =>
    have e : I 336 12 = nI f := hN
    have hf := hl f rfl
    have hne : ¬ I 336 12 = -1 := by rw [e]; exact nI_nm (by omega)
    unfold jn_X10_readLine_136 jn_X10_readLine_169
    exact ⟨fun _ => ⟨fun _ => h0 f I rfl f0 e, fun q => absurd q hne⟩, fun q => absurd q hne⟩
  | inr q =>
    obtain ⟨hnt, hrr⟩ := hN
    have hq := hr q rfl
    have g := skG_f (t := t) hq
    simp only at h0 h1
    obtain ⟨n10, ntk, n12⟩ := hnt
    by_cases hadj : skG t n q.2 = q.2 ∧ (isL t n q.2 = true ∨ isD t n q.2 = true)
    · rw [decide_eq_true hadj] at n12
      simp only [if_true] at n12
      have hne : ¬ I 336 12 = -1 := by rw [n12]; exact nI_nm (by omega)
      have hz : isS t n (skG t n q.2) = false := by
        unfold isS
        refine decide_eq_false (fun z => ?_)
        rw [hadj.1] at z
        rcases hadj.2 with h | h
        · have := of_decide_eq_true h; omega
        · have := of_decide_eq_true h; omega
      rw [hz] at h0
      unfold jn_X10_readLine_136 jn_X10_readLine_169
      exact ⟨fun _ => ⟨fun _ => h0 _ I rfl f0 n12, fun q => absurd q hne⟩, fun q => absurd q hne⟩
    · rw [decide_eq_false hadj] at n12
      simp only [Bool.false_eq_true, if_false] at n12
      have hnm := nI_nm (k := skG t n q.2) (by omega)
      have wr : isS t n (skG t n q.2) = false → jn_X10_readLine_161 I Q := by
        intro hz
        rw [hz] at h0
        unfold jn_X10_readLine_161 wp_X10_wrong jn_X10_readLine_169
        rw [n12, n10]
        refine ⟨fun w => absurd rfl w, fun _ I2 e2 => ?_⟩
        have e12 : I2 336 12 = nI (skG t n q.2) := by rw [e2, u2_s]
        exact ⟨fun _ => h0 _ I2 rfl (f0.tr (FQ.u e2 (by omega) (by omega)).fl) e12, fun w => absurd w (by rw [e12]; exact hnm)⟩
      unfold jn_X10_readLine_136
      rw [n12]
      refine ⟨fun w => absurd rfl w, fun _ => ?_⟩
      by_cases hc : skG t n q.2 < n ∧ isL t n (skG t n q.2) = false ∧ isD t n (skG t n q.2) = false
      · obtain ⟨t9, t11, t8⟩ := ntk.2.2.2 hc.1 hc.2.1 hc.2.2
        have hb := (hT.2.2 _ hc.1).1
        rw [t9, t11]
        refine ⟨fun w => absurd rfl w, fun _ => pk_eq (t (skG t n q.2)) 59 (fun z => ?_) (fun z => wr ?_)⟩
        · have hz : isS t n (skG t n q.2) = true := by unfold isS; exact decide_eq_true ⟨hc.1, z⟩
          rw [hz] at h1
          simp only [if_true] at h1
          unfold jn_X10_readLine_169
          rw [n12]
          refine ⟨fun w => absurd rfl w, fun _ => ?_⟩
          refine r_nextToken hT t8 (by omega) (fun I' f' a b c _ => ?_)
          have ha : adjB t n (skG t n q.2 + 1) = false := by
            unfold adjB
            refine decide_eq_false (fun u => ?_)
            rw [show skG t n q.2 + 1 - 1 = skG t n q.2 by omega, hc.2.1, hc.2.2] at u
            rcases u.2.2.2 with h | h <;> exact absurd h (by decide)
          have c' := c n12
          rw [ha] at c'
          exact h1 _ I' rfl (f0.tr f'.fl) ((hrr n12).cg f'.m) ⟨a, b, c'⟩
        · unfold isS; exact decide_eq_false (fun u => z u.2)
      · have t9 : ¬ I 336 9 = 3 := by
          intro u
          rcases Nat.lt_or_ge (skG t n q.2) n with hlt | hge
          · cases hL : isL t n (skG t n q.2) with
            | true => rw [(ntk.2.1 hL).1] at u; exact absurd u (by decide)
            | false =>
              cases hD : isD t n (skG t n q.2) with
              | true => rw [(ntk.2.2.1 hD).1] at u; exact absurd u (by decide)
              | false => exact hc ⟨hlt, hL, hD⟩
          · rw [(ntk.1 (by omega)).1] at u; exact absurd u (by decide)
        refine ⟨fun _ => wr ?_, fun u => absurd u t9⟩
        unfold isS
        refine decide_eq_false (fun u => hc ⟨u.1, ?_, ?_⟩)
        · unfold isL; exact decide_eq_false (fun v => by omega)
        · unfold isD; exact decide_eq_false (fun v => by omega)
theorem r_wrong {I : MI} {x : Int32} {Q : MI → Prop} (h12 : I 336 12 = -1) (hQ : ∀ I', FQ I I' → I' 336 12 = x → (∀ s, s ≠ 12 → I' 336 s = I 336 s) → Q I') : wp_X10_wrong I x Q := by
  unfold wp_X10_wrong
  exact ⟨fun w => absurd h12 w, fun _ I2 e2 => hQ I2 (FQ.u e2 (by omega) (by omega)) (by rw [e2, u2_s]) (fun s hs => by rw [e2, u2_n2 hs])⟩
theorem r_partF {I : MI} {i : Nat} {Q : MI → Prop} (hT : RT I t n) (h8 : I 336 8 = nI i) (hi : i ≤ n) (h12 : ¬ I 336 12 = -1) (hQ : ∀ I', FQ I I' → I' 336 12 = I 336 12 → Q I') : jn_X10_readPart_18 I Q := by
  unfold jn_X10_readPart_18
  refine r_nextToken hT h8 hi (fun I3 f3 _ _ _ e3 => ?_)
  have e3 := e3 h12
  have hne : ¬ I3 336 12 = -1 := by rw [e3]; exact h12
  exact r_numF hne (r_numF hne (r_numF hne ⟨fun _ => hQ I3 f3 e3, fun q => absurd q hne⟩))
theorem r_baseF {I : MI} {i : Nat} {Q : MI → Prop} (hT : RT I t n) (h8 : I 336 8 = nI i) (hi : i ≤ n) (h12 : ¬ I 336 12 = -1) (hQ : ∀ I', FQ I I' → I' 336 12 = I 336 12 → Q I') : jn_X10_readBase_18 I Q := by
  unfold jn_X10_readBase_18
  refine r_nextToken hT h8 hi (fun I3 f3 _ _ _ e3 => ?_)
  have e3 := e3 h12
  have hne : ¬ I3 336 12 = -1 := by rw [e3]; exact h12
  exact r_numF hne ⟨fun _ => hQ I3 f3 e3, fun q => absurd q hne⟩
theorem wdF_s {s e f w : Nat} : wdF t s e (f + 1) w = if isW t s e w then some w else wdF t s e f (w + 1) := rfl
theorem r_readLine {I : MI} {B : St} {s : Nat} {Q : MI → Prop} (hT : RT I t n) (h10 : I 336 10 = nI s) (hk : TK I t n s) (h12 : I 336 12 = -1) (hs : s < n) (hR : RR I B []) (hB : SetOk B) (h0 : ∀ f I', pLine t n B s = .inl f → FL I I' → I' 336 12 = nI f → Q I') (h1 : ∀ r I', pLine t n B s = .inr r → FL I I' → RR I' r.1 [] → LT I' t n r.2 → Q I') : wp_X10_readLine I Q := by
  have hn := hT.1
  have hs1 := hB.1.1
  have hs2 := hB.1.2.1
  have l := skL_f (t := t) (n := n) (i := s) (by omega)
  have hlw : ∀ w, isW t s (skL t n s) w = true → w < 7 → isL t n s = true := by
    intro w hw h7
    have := (wvT w h7).2.1
    have e := (of_decide_eq_true hw).1
    exact l.2.2.2 s (Nat.le_refl _) (by omega)
  have e0 : I 337 0 = nI (sN B 1 0) := hR.n (j := 1) (i := 0) (by decide)
  have e1 : I 337 1 = nI (sN B 1 1) := hR.n (j := 1) (i := 1) (by decide)
  -- behind the word
  have tail : ∀ (w : Nat) (I' : MI), wdF t s (skL t n s) 7 0 = some w → many B w = false → FL I I' → NS I' t n B w (pNums t n B (numN w) (fstN w) (skL t n s) []) → jn_X10_readLine_136 I' Q := by
    intro w I' hw hm f hN
    have pl : pLine t n B s = (match pNums t n B (numN w) (fstN w) (skL t n s) [] with
        | .inl f => .inl f
        | .inr r => if isS t n (skG t n r.2) then .inr (takeW B w r.1, skG t n r.2 + 1) else .inl (skG t n r.2)) := by
      unfold pLine
      rw [hw]
      simp only
      rw [hm]
      rfl
    refine r_tail (i := s) (f.rt hT) hN (fun f hf => pNums_le _ _ _ _ _ l.2.1 hf) (fun q hq => (pNums_len _ _ _ _ _ l.2.1 hq).2.2.1) f (fun f I2 e f2 g => h0 f I2 (by rw [pl]; exact e) f2 g) (fun r I2 e f2 g k => h1 r I2 (by rw [pl]; exact e) f2 g k)
  -- a fault at the word
  have bad : ∀ (I' : MI), pLine t n B s = .inl s → FL I I' → I' 336 12 = nI s → jn_X10_readLine_136 I' Q := by
    intro I' hp f e
    have hne : ¬ I' 336 12 = -1 := by rw [e]; exact nI_nm (by omega)
    unfold jn_X10_readLine_136 jn_X10_readLine_169
    exact ⟨fun _ => ⟨fun _ => h0 s I' hp f e, fun q => absurd q hne⟩, fun q => absurd q hne⟩
  have pos : ∀ w, isW t s (skL t n s) w = true → w < 7 → I 336 8 = nI (skL t n s) ∧ 0 < skL t n s ∧ isL t n (skL t n s - 1) = true := by
    intro w hw h7
    have hL := hlw w hw h7
    have := (wvT w h7).2.1
    have e := (of_decide_eq_true hw).1
    exact ⟨(hk.2.1 hL).2, by omega, l.2.2.2 _ (by omega) (by omega)⟩
  have mf : ∀ w, w ≠ 3 → w ≠ 4 → many B w = false := fun w a b => by unfold many; exact decide_eq_false (fun q => by omega)
  unfold wp_X10_readLine
  refine r_isWord (w := 0) hT h10 hk hs (by omega) (by rfl) (fun w0 => ⟨fun q => absurd q (by decide), fun _ => ?_⟩) (fun w0 => ⟨fun _ => ?_, fun q => absurd rfl q⟩)
  · obtain ⟨p1, p2, p3⟩ := pos 0 w0 (by omega)
    have hw : wdF t s (skL t n s) 7 0 = some 0 := by rw [wdF_s, w0]; rfl
    exact r_one (w := 0) (what := 2) hT p1 l.2.1 p2 p3 h12 hR (by omega) rfl rfl (by decide) (fun I' f hN => tail 0 I' hw (mf 0 (by omega) (by omega)) f hN)
  refine r_isWord (w := 1) hT h10 hk hs (by omega) (by rfl) (fun w1 => ⟨fun q => absurd q (by decide), fun _ => ?_⟩) (fun w1 => ⟨fun _ => ?_, fun q => absurd rfl q⟩)
  · obtain ⟨p1, p2, p3⟩ := pos 1 w1 (by omega)
    have hw : wdF t s (skL t n s) 7 0 = some 1 := by rw [wdF_s, w0, wdF_s, w1]; rfl
    exact r_one (w := 1) (what := 3) hT p1 l.2.1 p2 p3 h12 hR (by omega) rfl rfl (by decide) (fun I' f hN => tail 1 I' hw (mf 1 (by omega) (by omega)) f hN)
  refine r_isWord (w := 2) hT h10 hk hs (by omega) (by rfl) (fun w2 => ⟨fun q => absurd q (by decide), fun _ => ?_⟩) (fun w2 => ⟨fun _ => ?_, fun q => absurd rfl q⟩)
  · obtain ⟨p1, p2, p3⟩ := pos 2 w2 (by omega)
    have hw : wdF t s (skL t n s) 7 0 = some 2 := by rw [wdF_s, w0, wdF_s, w1, wdF_s, w2]; rfl
    exact r_one (w := 2) (what := 4) hT p1 l.2.1 p2 p3 h12 hR (by omega) rfl rfl (by decide) (fun I' f hN => tail 2 I' hw (mf 2 (by omega) (by omega)) f hN)
  refine r_isWord (w := 3) hT h10 hk hs (by omega) (by rfl) (fun w3 => ⟨fun q => absurd q (by decide), fun _ => ?_⟩) (fun w3 => ⟨fun _ => ?_, fun q => absurd rfl q⟩)
  · obtain ⟨p1, p2, p3⟩ := pos 3 w3 (by omega)
    have hw : wdF t s (skL t n s) 7 0 = some 3 := by rw [wdF_s, w0, wdF_s, w1, wdF_s, w2, wdF_s, w3]; rfl
    unfold wp_X10_readPart
    rw [show ix 0 = 0 from by decide, e0]
    refine ⟨v0, (pk_eq (sN B 1 0) 3 (fun z => ?_) (fun z => ?_)).symm⟩
    · have hm : many B 3 = true := by unfold many; exact decide_eq_true (Or.inl ⟨rfl, by omega⟩)
      have hp : pLine t n B s = .inl s := by unfold pLine; rw [hw]; simp only; rw [hm]; rfl
      rw [h10]
      refine r_wrong h12 (fun I13 f13 e13 g13 => r_partF (f13.rt hT) (by rw [g13 8 (by omega)]; exact p1) l.2.1 (by rw [e13]; exact nI_nm (by omega)) (fun I' f' e' => bad I' hp (f13.fl.tr f'.fl) (by rw [e', e13])))
    · have hm : many B 3 = false := by unfold many; exact decide_eq_false (fun q => by omega)
      exact r_part3 hT p1 l.2.1 p2 p3 h12 hR (by omega) (fun I' f hN => tail 3 I' hw hm f hN)
  refine r_isWord (w := 4) hT h10 hk hs (by omega) (by rfl) (fun w4 => ⟨fun q => absurd q (by decide), fun _ => ?_⟩) (fun w4 => ⟨fun _ => ?_, fun q => absurd rfl q⟩)
  · obtain ⟨p1, p2, p3⟩ := pos 4 w4 (by omega)
    have hw : wdF t s (skL t n s) 7 0 = some 4 := by rw [wdF_s, w0, wdF_s, w1, wdF_s, w2, wdF_s, w3, wdF_s, w4]; rfl
    unfold wp_X10_readBase
    rw [show ix 1 = 1 from by decide, e1]
    refine ⟨v1, (pk_eq (sN B 1 1) 3 (fun z => ?_) (fun z => ?_)).symm⟩
    · have hm : many B 4 = true := by unfold many; exact decide_eq_true (Or.inr ⟨rfl, by omega⟩)
      have hp : pLine t n B s = .inl s := by unfold pLine; rw [hw]; simp only; rw [hm]; rfl
      rw [h10]
      refine r_wrong h12 (fun I13 f13 e13 g13 => r_baseF (f13.rt hT) (by rw [g13 8 (by omega)]; exact p1) l.2.1 (by rw [e13]; exact nI_nm (by omega)) (fun I' f' e' => bad I' hp (f13.fl.tr f'.fl) (by rw [e', e13])))
    · have hm : many B 4 = false := by unfold many; exact decide_eq_false (fun q => by omega)
      exact r_base4 hT p1 l.2.1 p2 p3 h12 hR (by omega) (fun I' f hN => tail 4 I' hw hm f hN)
  refine r_isWord (w := 5) hT h10 hk hs (by omega) (by rfl) (fun w5 => ⟨fun q => absurd q (by decide), fun _ => ?_⟩) (fun w5 => ⟨fun _ => ?_, fun q => absurd rfl q⟩)
  · obtain ⟨p1, p2, p3⟩ := pos 5 w5 (by omega)
    have hw : wdF t s (skL t n s) 7 0 = some 5 := by rw [wdF_s, w0, wdF_s, w1, wdF_s, w2, wdF_s, w3, wdF_s, w4, wdF_s, w5]; rfl
    exact r_cell5 hT p1 l.2.1 p2 p3 h12 hR hs1 hs2 (fun I' f hN => tail 5 I' hw (mf 5 (by omega) (by omega)) f hN)
  refine r_isWord (w := 6) hT h10 hk hs (by omega) (by rfl) (fun w6 => ⟨fun q => absurd q (by decide), fun _ => ?_⟩) (fun w6 => ⟨fun _ => ?_, fun q => absurd rfl q⟩)
  · obtain ⟨p1, p2, p3⟩ := pos 6 w6 (by omega)
    have hw : wdF t s (skL t n s) 7 0 = some 6 := by rw [wdF_s, w0, wdF_s, w1, wdF_s, w2, wdF_s, w3, wdF_s, w4, wdF_s, w5, wdF_s, w6]; rfl
    exact r_works6 hT p1 l.2.1 p2 p3 h12 hR hs1 (fun I' f hN => tail 6 I' hw (mf 6 (by omega) (by omega)) f hN)
  have hw : wdF t s (skL t n s) 7 0 = none := by rw [wdF_s, w0, wdF_s, w1, wdF_s, w2, wdF_s, w3, wdF_s, w4, wdF_s, w5, wdF_s, w6]; rfl
  have hp : pLine t n B s = .inl s := by unfold pLine; rw [hw]
  rw [h10]
  exact r_wrong h12 (fun I15 f15 e15 _ => bad I15 hp f15.fl e15)
/-- what a text leaves as it was in the reference -/
def FX (I I' : MI) : Prop := (∀ k, k ≠ 336 → k ≠ 337 → k ≠ 338 → I' k = I k) ∧ ∀ s, s < 4 ∨ s = 5 ∨ 13 ≤ s → I' 336 s = I 336 s
theorem r_text {I : MI} {A : St} {Y : List (Nat × Nat × Nat × Nat)} {Q : Int32 → MI → Prop} (hA : RR I A Y) (hn : n ≤ 400) (h6 : I 336 6 = nI n) (ht : ∀ k, k < n → t k < 256 ∧ I 340 k = nI (t k)) (h0 : ∀ f I', pAll t n (n + 1) B0 0 = .inl f → FX I I' → RR I' A Y → I' 336 6 = 0 → I' 336 4 = I 336 4 → Q (-4 - nI f) I') (h1 : ∀ B I', pAll t n (n + 1) B0 0 = .inr B → FX I I' → RR I' (anew B) [] → I' 336 6 = 0 → I' 336 4 = 0 → Q (nI (sN B 1 1 * sN B 1 0)) I') : wp_X10_text I Q := by
  unfold wp_X10_text
  intro I1 e1 I2 e2 I3 e3 I4 e4
  have o4 : ∀ s, s ≠ 7 → s ≠ 6 → s ≠ 8 → s ≠ 12 → I4 336 s = I 336 s := fun s a b c d => by rw [e4, u2_n2 d, e3, u2_n2 c, e2, u2_n2 b, e1, u2_n2 a]
  have k4 : ∀ k, k ≠ 336 → I4 k = I k := fun k hk => by rw [e4, u2_ne hk, e3, u2_ne hk, e2, u2_ne hk, e1, u2_ne hk]
  have i7 : I4 336 7 = nI n := by rw [e4, u2_n2 (by omega), e3, u2_n2 (by omega), e2, u2_n2 (by omega), e1, u2_s]; exact h6
  have i6 : I4 336 6 = 0 := by rw [e4, u2_n2 (by omega), e3, u2_n2 (by omega), e2, u2_s]
  have i8 : I4 336 8 = 0 := by rw [e4, u2_n2 (by omega), e3, u2_s]
  have i12 : I4 336 12 = -1 := by rw [e4, u2_s]
  refine r_putAside (fun I5 p1 p2 => ⟨2213, ?_⟩)
  have zero : ∀ (m i : Nat) (J : MI), i + m = 2212 → (∀ s, s < i → J 337 s = 0) → (∀ k, k ≠ 337 → J k = I5 k) → (∀ I', (∀ s, s < 2212 → I' 337 s = 0) → (∀ k, k ≠ 337 → I' k = I5 k) → (vp_in 2 2212 ∧ (∀ I12, I12 = u2 I' 337 (ix 2) 1 → (wp_X10_nextToken I12 (fun I13 => ((∃ N17, lp_X10_text_60 (fun I18 => (jn_X10_text_82 I18 Q)) N17 I13))))))) → lp_X10_text_29 (fun I10 => (vp_in 2 2212 ∧ (∀ I12, I12 = u2 I10 337 (ix 2) 1 → (wp_X10_nextToken I12 (fun I13 => ((∃ N17, lp_X10_text_60 (fun I18 => (jn_X10_text_82 I18 Q)) N17 I13))))))) (m + 1) (nI i) J := by
    intro m
    induction m with
    | zero =>
      intro i J hi a b c
      unfold lp_X10_text_29
      rw [show (2212 : Int32) = nI 2212 from rfl]
      exact ⟨fun _ => c J (fun s hs => a s (by omega)) b, fun z => absurd (nI_le (by omega) (by omega)) z⟩
    | succ m ih =>
      intro i J hi a b c
      unfold lp_X10_text_29
      rw [show (2212 : Int32) = nI 2212 from rfl, ix_nI (by omega), nI_1]
      refine ⟨fun z => absurd z (nI_ge (by omega) (by omega)), fun _ => ⟨vp_in_nI (by omega) (by omega), fun J2 e => ?_⟩⟩
      refine ih (i + 1) J2 (by omega) (fun s hs => ?_) (fun k hk => by rw [e, u2_ne hk]; exact b k hk) c
      rw [e, u2_at]
      by_cases q : s = i
      · rw [if_pos ⟨rfl, q⟩]
      · rw [if_neg (fun g => q g.2)]
        exact a s (by omega)
  rw [← nI_0]
  refine zero 2212 0 I5 (by omega) (fun s hs => absurd hs (by omega)) (fun _ _ => rfl) (fun I10 z1 z2 => ⟨v2, fun I12 e12 => ?_⟩)
  rw [show ix 2 = 2 from by decide] at e12
  have hR12 : RR I12 B0 [] := by
    have z : ∀ s, s < 2212 → s ≠ 2 → I12 337 s = 0 := fun s hs h2 => by rw [e12, u2_n2 h2]; exact z1 s hs
    have hv : ∀ s, s < 92 → val B0 s = if s = 2 then 1 else 0 := by
      intro s hs
      have h9 : ∀ s, s < 92 → (isT s = true → s ≠ 2) ∧ (isT s = false → ((iv s).1 = 1 ∧ (iv s).2 = 2 ↔ s = 2)) := by decide +kernel
      obtain ⟨h91, h92⟩ := h9 s hs
      unfold val
      cases hT : isT s with
      | true =>
        rw [if_neg (h91 hT)]
        rfl
      | false =>
        have := h92 hT
        show nI (if (iv s).1 = 1 ∧ (iv s).2 = 2 then 1 else 0) = _
        by_cases q : s = 2
        · rw [if_pos (this.mpr q), if_pos q]; rfl
        · rw [if_neg (fun g => q (this.mp g)), if_neg q]; rfl
    refine ⟨fun s hs hs2 => ?_, ⟨z 14 (by omega) (by omega), z 15 (by omega) (by omega), z 16 (by omega) (by omega), z 17 (by omega) (by omega)⟩, (fun k x hx => by cases hx), (fun k x hx => by cases hx), (fun k x hx => by cases hx), (fun k x hx => by cases hx), List.Perm.refl _, Nat.zero_le _, Nat.zero_le _, Nat.zero_le _, Nat.zero_le _⟩
    rw [hv s hs]
    by_cases q : s = 2
    · rw [q, if_pos rfl, e12, u2_s]
    · rw [if_neg q]; exact z s (by omega) q
  have m12 : ∀ s, I12 336 s = I4 336 s := fun s => by rw [e12, u2_ne (by omega), z2 336 (by omega), p2 336 (by omega)]
  have k12 : ∀ k, k ≠ 336 → k ≠ 337 → k ≠ 338 → I12 k = I k := fun k a b c => by rw [e12, u2_ne b, z2 k b, p2 k c, k4 k a]
  have s12 : ∀ s, s < 2212 → I12 338 s = I 337 s := fun s hs => by rw [e12, u2_ne (by omega), z2 338 (by omega), p1 s hs, k4 337 (by omega)]
  have hT12 : RT I12 t n := ⟨hn, by rw [m12]; exact i7, fun k hk => ⟨(ht k hk).1, by rw [k12 340 (by omega) (by omega) (by omega)]; exact (ht k hk).2⟩⟩
  -- the end
  have fin : ∀ (J : MI), FL I12 J → ((∃ f, pAll t n (n + 1) B0 0 = .inl f ∧ J 336 12 = nI f) ∨ (∃ B, pAll t n (n + 1) B0 0 = .inr B ∧ J 336 12 = -1 ∧ RR J B [])) → jn_X10_text_82 J Q := by
    intro J f hJ
    have j338 : ∀ s, s < 2212 → J 338 s = I 337 s := fun s hs => by rw [f 338 s (by omega) (by omega)]; exact s12 s hs
    have jx : FX I J := ⟨fun k a b c => by funext s; rw [f k s (by omega) b, k12 k a b c], fun s hs => by rw [f 336 s (by omega) (by omega), m12, o4 s (by omega) (by omega) (by omega) (by omega)]⟩
    have j6 : J 336 6 = 0 := by rw [f 336 6 (by omega) (by omega), m12]; exact i6
    have j4 : J 336 4 = I 336 4 := by rw [f 336 4 (by omega) (by omega), m12, o4 4 (by omega) (by omega) (by omega) (by omega)]
    unfold jn_X10_text_82
    rcases hJ with ⟨q, hq, e⟩ | ⟨B, hq, e, hR⟩
    · have hql := pAll_le _ _ _ _ (Nat.zero_le _) hq
      have hne : ¬ J 336 12 = -1 := by rw [e]; exact nI_nm (by omega)
      refine ⟨fun z => absurd z hne, fun _ => r_bringBack (fun I24 q1 q2 => ?_)⟩
      rw [q2 336 (by omega), e]
      refine h0 q I24 hq ⟨fun k a b c => by rw [q2 k b, jx.1 k a b c], fun s hs => by rw [q2 336 (by omega), jx.2 s hs]⟩ (hA.cp (fun s hs => by rw [q1 s hs, j338 s hs])) (by rw [q2 336 (by omega)]; exact j6) (by rw [q2 336 (by omega)]; exact j4)
    · refine ⟨fun _ => r_starts hR.1 (fun I20 h20 f20 I21 e21 => ?_), fun z => absurd e z⟩
      have h21 : RR I21 (anew B) [] := h20.cg (by rw [e21, u2_ne (by omega)])
      have g1 : I21 337 1 = nI (sN B 1 1) := h21.n (j := 1) (i := 1) (by decide)
      have g0 : I21 337 0 = nI (sN B 1 0) := h21.n (j := 1) (i := 0) (by decide)
      rw [show ix 1 = 1 from by decide, show ix 0 = 0 from by decide, g1, g0, pk_mul]
      refine ⟨v1, v0, h1 B I21 hq ⟨fun k a b c => by rw [e21, u2_ne a, f20 k b, jx.1 k a b c], fun s hs => by rw [e21, u2_n2 (by omega), f20 336 (by omega), jx.2 s hs]⟩ h21 (by rw [e21, u2_n2 (by omega), f20 336 (by omega)]; exact j6) (by rw [e21, u2_s])⟩
  have key : ∀ (m i : Nat) (B : St) (J : MI), n + 1 ≤ i + m → i ≤ n → FL I12 J → LT J t n i → RR J B [] → SetOk B → St9 B → pAll t n m B i = pAll t n (n + 1) B0 0 → lp_X10_text_60 (fun I18 => (jn_X10_text_82 I18 Q)) (m + 1) J := by
    intro m
    induction m with
    | zero => intro i B J hi hin; omega
    | succ m ih =>
      intro i B J hi hin f hL hR hB h9 hp
      have g := skG_f (t := t) hin
      obtain ⟨l10, ltk, l12⟩ := hL
      have hps : pAll t n (m + 1) B i = if skG t n i = n then .inr B else match pLine t n B (skG t n i) with
          | .inl q => .inl q
          | .inr r => pAll t n m r.1 r.2 := rfl
      unfold lp_X10_text_60
      rw [l12]
      refine ⟨fun z => absurd rfl z, fun _ => ?_⟩
      by_cases hz : skG t n i = n
      · rw [hps, if_pos hz] at hp
        rw [(ltk.1 hz).1]
        exact ⟨fun _ => fin J f (Or.inr ⟨B, hp.symm, l12, hR⟩), fun z => absurd rfl z⟩
      · rw [hps, if_neg hz] at hp
        have n9 : ¬ J 336 9 = 0 := by
          intro u
          cases hLL : isL t n (skG t n i) with
          | true => rw [(ltk.2.1 hLL).1] at u; exact absurd u (by decide)
          | false =>
            cases hD : isD t n (skG t n i) with
            | true => rw [(ltk.2.2.1 hD).1] at u; exact absurd u (by decide)
            | false => rw [(ltk.2.2.2 (by omega) hLL hD).1] at u; exact absurd u (by decide)
        refine ⟨fun z => absurd z n9, fun _ => ?_⟩
        refine r_readLine (f.rt hT12) l10 ltk l12 (by omega) hR hB (fun q I16 hl f16 e16 => ?_) (fun r I16 hl f16 h16 k16 => ?_)
        · rw [hl] at hp
          have hql := pLine_le g.2.1 hl
          have hne : ¬ I16 336 12 = -1 := by rw [e16]; exact nI_nm (by omega)
          cases m with
          | zero =>
            exfalso
            omega
          | succ m =>
            unfold lp_X10_text_60
            exact ⟨fun _ => fin I16 (f.tr f16) (Or.inl ⟨q, hp.symm, e16⟩), fun z => absurd z hne⟩
        · rw [hl] at hp
          simp only at hp
          obtain ⟨b1, b2⟩ := pLine_ok g.2.1 hB h9 hl
          have c := pLine_adv g.2.1 hl
          exact ih r.2 r.1 I16 (by omega) c.2 (f.tr f16) k16 h16 b1 b2 hp
  refine r_nextToken (i := 0) hT12 (by rw [m12]; exact i8) (Nat.zero_le _) (fun I13 f13 a b c _ => ⟨n + 2, ?_⟩)
  have c' := c (by rw [m12]; exact i12)
  have ha : adjB t n 0 = false := by unfold adjB; exact decide_eq_false (fun q => by omega)
  rw [ha] at c'
  exact key (n + 1) 0 B0 I13 (by omega) (Nat.zero_le _) f13.fl ⟨a, b, c'⟩ (hR12.cg f13.m) B0_ok.1 B0_ok.2 rfl
end RREAF
