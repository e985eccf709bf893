/-! the reference reads words, lines, the whole text -/
def bvF (t : Nat → Nat) (s : Nat) : Nat → Nat
  | 0 => 0
  | m + 1 => 27 * bvF t s m + (t (s + m) - 96)
theorem bvF_inj {t t' : Nat → Nat} {s s' : Nat} : ∀ (m m' : Nat), (∀ k, k < m → 97 ≤ t (s + k) ∧ t (s + k) ≤ 122) → (∀ k, k < m' → 97 ≤ t' (s' + k) ∧ t' (s' + k) ≤ 122) → bvF t s m = bvF t' s' m' → m = m' ∧ ∀ k, k < m → t (s + k) = t' (s' + k)
  | 0, 0, _, _, _ => ⟨rfl, fun k hk => absurd hk (by omega)⟩
  | 0, m' + 1, _, h2, h => by
    have := h2 m' (by omega)
    unfold bvF at h
    omega
  | m + 1, 0, h1, _, h => by
    have := h1 m (by omega)
    unfold bvF at h
    omega
  | m + 1, m' + 1, h1, h2, h => by
    have a := h1 m (by omega)
    have b := h2 m' (by omega)
    unfold bvF at h
    have e : bvF t s m = bvF t' s' m' ∧ t (s + m) = t' (s' + m') := by omega
    obtain ⟨c, d⟩ := bvF_inj m m' (fun k hk => h1 k (by omega)) (fun k hk => h2 k (by omega)) e.1
    refine ⟨by omega, fun k hk => ?_⟩
    by_cases hkm : k = m
    · subst hkm
      rw [e.2, c]
    · exact d k (by omega)
theorem bvF_lt {t : Nat → Nat} {s : Nat} : ∀ (m : Nat), (∀ k, k < m → 97 ≤ t (s + k) ∧ t (s + k) ≤ 122) → bvF t s m < 27 ^ m
  | 0, _ => Nat.one_pos
  | m + 1, h => by
    have a := h m (by omega)
    have ih := bvF_lt m (fun k hk => h k (by omega))
    unfold bvF
    rw [Nat.pow_succ]
    omega
def wv (w : Nat) : Nat := [854090722, 220309, 369932, 316163, 40613, 63030, 12531826].getD w 0
theorem wvT : ∀ w, w < 7 → wv w = bvF (fun k => (wl w).getD k 0) 0 (wl w).length ∧ 4 ≤ (wl w).length ∧ (wl w).length ≤ 7 ∧ wv w < 2 ^ 31 := by decide +kernel
theorem wvL : ∀ w, w < 7 → ∀ k, k < 7 → k < (wl w).length → 97 ≤ (wl w).getD k 0 ∧ (wl w).getD k 0 ≤ 122 := by decide +kernel
section RREAE
variable {t : Nat → Nat} {n : Nat}
theorem isW_iff {s w : Nat} (hs : s ≤ n) (hw : w < 7) : isW t s (skL t n s) w = true ↔ bvF t s (skL t n s - s) = wv w := by
  obtain ⟨a1, a2, a3, _⟩ := wvT w hw
  have l := skL_f (t := t) hs
  have hl : ∀ k, k < skL t n s - s → 97 ≤ t (s + k) ∧ t (s + k) ≤ 122 := fun k hk => (of_decide_eq_true (l.2.2.2 (s + k) (by omega) (by omega))).2
  have hl' : ∀ k, k < (wl w).length → 97 ≤ (fun k => (wl w).getD k 0) (0 + k) ∧ (fun k => (wl w).getD k 0) (0 + k) ≤ 122 := fun k hk => by
    rw [Nat.zero_add]
    exact wvL w hw k (by omega) hk
  unfold isW
  rw [decide_eq_true_eq]
  constructor
  · rintro ⟨e, h⟩
    rw [a1, show skL t n s - s = (wl w).length by omega]
    have : ∀ m, m ≤ (wl w).length → bvF t s m = bvF (fun k => (wl w).getD k 0) 0 m := by
      intro m
      induction m with
      | zero => intro _; rfl
      | succ m ih =>
        intro hm
        unfold bvF
        rw [ih (by omega), h m (by omega), Nat.zero_add]
    exact this _ (Nat.le_refl _)
  · intro h
    rw [a1] at h
    obtain ⟨c, d⟩ := bvF_inj _ _ hl hl' h
    refine ⟨by omega, fun k hk => ?_⟩
    have := d k (by omega)
    rw [Nat.zero_add] at this
    exact this
theorem r_isWord {I : MI} {s w : Nat} {x : Int64} {Q : Int32 → Prop} (hT : RT I t n) (h10 : I 336 10 = nI s) (hk : TK I t n s) (hs : s < n) (hw : w < 7) (hx : x = lN (wv w)) (h1 : isW t s (skL t n s) w = true → Q 1) (h0 : isW t s (skL t n s) w = false → Q 0) : wp_X10_isWord I x Q := by
  have hn := hT.1
  obtain ⟨a1, a2, a3, a4⟩ := wvT w hw
  have l := skL_f (t := t) (n := n) (i := s) (by omega)
  unfold wp_X10_isWord
  cases hL : isL t n s with
  | false =>
    have hw0 : isW t s (skL t n s) w = false := by
      unfold isW
      refine decide_eq_false (fun q => ?_)
      have e : skL t n s = s := sk_no hL
      omega
    have n9 : ¬ I 336 9 = 1 := by
      intro q
      cases hD : isD t n s with
      | true => rw [(hk.2.2.1 hD).1] at q; exact absurd q (by decide)
      | false => rw [(hk.2.2.2 hs hL hD).1] at q; exact absurd q (by decide)
    refine ⟨1, ?_⟩
    unfold lp_X10_isWord_8 jn_X10_isWord_62
    exact ⟨fun _ => ⟨fun _ => h0 hw0, fun q => absurd q n9⟩, fun q => absurd q n9⟩
  | true =>
    obtain ⟨t9, t8⟩ := hk.2.1 hL
    have hl : ∀ k, k < skL t n s - s → 97 ≤ t (s + k) ∧ t (s + k) ≤ 122 := fun k hk => (of_decide_eq_true (l.2.2.2 (s + k) (by omega) (by omega))).2
    have fin : ∀ v : Nat, (skL t n s - s < 8 → v = bvF t s (skL t n s - s)) → jn_X10_isWord_62 I x (lN v) Q := by
      intro v hv
      unfold jn_X10_isWord_62
      rw [t9, t8, h10, pk_sub l.1]
      refine ⟨fun q => absurd rfl q, fun _ => pk_le 8 (skL t n s - s) (fun q => h0 ?_) (fun q => ?_)⟩
      · unfold isW; exact decide_eq_false (fun g => by omega)
      · have hb := bvF_lt (skL t n s - s) hl
        have h27 : 27 ^ (skL t n s - s) ≤ 27 ^ 7 := Nat.pow_le_pow_right (by decide) (by omega)
        have h277 : (27 : Nat) ^ 7 < 2 ^ 63 := by decide
        rw [hv q, hx]
        have c := cmp_lN (a := bvF t s (skL t n s - s)) (b := wv w) (by omega) (by omega)
        have iw := isW_iff (t := t) (n := n) (s := s) (by omega) hw
        refine ⟨fun u => h0 ?_, fun u => h1 (iw.mpr (c.mp u))⟩
        rcases Bool.eq_false_or_eq_true (isW t s (skL t n s) w) with p | p
        · exact absurd (c.mpr (iw.mp p)) u
        · exact p
    have key : ∀ (m k : Nat), k + m = (if skL t n s - s < 8 then skL t n s else s + 8) → s ≤ k → lp_X10_isWord_8 I (fun x6 => (jn_X10_isWord_62 I x x6 Q)) (m + 1) (lN (bvF t s (k - s))) (nI k) := by
      intro m
      induction m with
      | zero =>
        intro k hk hsk
        unfold lp_X10_isWord_8
        rw [t9, t8, h10, show nI s + 8 = nI (s + 8) from nI_add s 8]
        by_cases h8 : skL t n s - s < 8
        · rw [if_pos h8] at hk
          refine ⟨fun q => absurd rfl q, fun _ => ⟨fun _ => fin _ (fun _ => by congr 1; omega), fun q => absurd (nI_le (by omega) (by omega)) q⟩⟩
        · rw [if_neg h8] at hk
          refine ⟨fun q => absurd rfl q, fun _ => ⟨fun _ => fin _ (fun q => absurd q h8), fun _ => ⟨fun _ => fin _ (fun q => absurd q h8), fun q => absurd (nI_le (by omega) (by omega)) q⟩⟩⟩
      | succ m ih =>
        intro k hk hsk
        have hke : k < skL t n s ∧ k < s + 8 := by
          by_cases h8 : skL t n s - s < 8
          · rw [if_pos h8] at hk; omega
          · rw [if_neg h8] at hk; omega
        obtain ⟨b1, b2⟩ := hT.2.2 k (by omega)
        have hlk := hl (k - s) (by omega)
        rw [show s + (k - s) = k by omega] at hlk
        unfold lp_X10_isWord_8
        rw [t9, t8, h10, show nI s + 8 = nI (s + 8) from nI_add s 8, ix_nI (by omega), b2, nI_l (by omega), show (27 : Int64) = lN 27 from rfl, lN_mul, lN_add, show (96 : Int64) = lN 96 from rfl, lN_sub (by omega), nI_1]
        refine ⟨fun q => absurd rfl q, fun _ => ⟨fun q => absurd q (nI_ge (by omega) (by omega)), fun _ => ⟨fun q => absurd q (nI_ge (by omega) (by omega)), fun _ => ⟨vp_in_nI (by omega) (by omega), ?_⟩⟩⟩⟩
        have e : 27 * bvF t s (k - s) + t k - 96 = bvF t s (k + 1 - s) := by
          rw [show k + 1 - s = (k - s) + 1 by omega]
          show _ = 27 * bvF t s (k - s) + (t (s + (k - s)) - 96)
          rw [show s + (k - s) = k by omega]
          omega
        rw [e]
        exact ih (k + 1) (by omega) (by omega)
    refine ⟨(if skL t n s - s < 8 then skL t n s else s + 8) - s + 1, ?_⟩
    rw [h10, show (0 : Int64) = lN (bvF t s (s - s)) by rw [Nat.sub_self]; rfl]
    refine key _ s ?_ (Nat.le_refl _)
    by_cases h8 : skL t n s - s < 8
    · rw [if_pos h8]; omega
    · rw [if_neg h8]; omega
/-- a line's numbers are read: the fault, or what stands behind -/
def NS (I : MI) (t : Nat → Nat) (n : Nat) (B : St) (w : Nat) (r : Sum Nat (List Nat × Nat)) : Prop := match r with
  | .inl f => I 336 12 = nI f
  | .inr q => NT I t n q.2 ∧ (I 336 12 = -1 → RR I (takeW B w q.1) [])
/-- what reading changes in the reference -/
def FL (I I' : MI) : Prop := ∀ k s, ¬ (k = 336 ∧ 8 ≤ s ∧ s ≤ 12) → k ≠ 337 → I' k s = I k s
theorem FQ.fl {I I' : MI} (h : FQ I I') : FL I I' := fun k s a _ => h k s a
theorem FL.tr {I J K : MI} (h : FL I J) (h2 : FL J K) : FL I K := fun k s a b => (h2 k s a b).trans (h k s a b)
theorem FL.rt {I I' : MI} (f : FL I I') (h : RT I t n) : RT I' t n := ⟨h.1, by rw [f 336 7 (by omega) (by omega)]; exact h.2.1, fun k hk => ⟨(h.2.2 k hk).1, by rw [f 340 k (by omega) (by omega)]; exact (h.2.2 k hk).2⟩⟩
theorem RF.fl {I I' : MI} (h : RF I I') : FL I I' := fun k s _ b => by rw [h k b]
theorem pN1 {B : St} {p i : Nat} {acc : List Nat} {c : Nat} : pNums t n B (c + 1) p i acc = if okN t n i (bd B p) then pNums t n B c (p + 1) (skD t n (skG t n i)) (acc ++ [dv t (skG t n i) (skD t n (skG t n i))]) else .inl (skG t n i) := rfl
theorem pN1t {B : St} {p i : Nat} {acc : List Nat} {c : Nat} (h : okN t n i (bd B p) = true) : pNums t n B (c + 1) p i acc = pNums t n B c (p + 1) (skD t n (skG t n i)) (acc ++ [dv t (skG t n i) (skD t n (skG t n i))]) := by rw [pN1, h]; rfl
theorem pN1f {B : St} {p i : Nat} {acc : List Nat} {c : Nat} (h : okN t n i (bd B p) = false) : pNums t n B (c + 1) p i acc = .inl (skG t n i) := by rw [pN1, h]; rfl
theorem okN_d {i : Nat} {b : Nat × Nat} (h : okN t n i b = true) (hi : i ≤ n) : skD t n (skG t n i) ≤ n ∧ b.1 ≤ dv t (skG t n i) (skD t n (skG t n i)) ∧ dv t (skG t n i) (skD t n (skG t n i)) < b.2 := by
  have o := of_decide_eq_true h
  have g := skG_f (t := t) hi
  have d := skD_f (t := t) g.2.1
  exact ⟨d.2.1, o.2.2.2.1, o.2.2.2.2⟩
theorem skG_nm {i : Nat} (hn : n ≤ 400) (hi : i ≤ n) : ¬ nI (skG t n i) = -1 := by
  have g := skG_f (t := t) hi
  exact nI_nm (by omega)
theorem NT.f {I : MI} {i : Nat} (h : NT I t n i) (ho : skG t n i ≠ i ∨ (isL t n i = false ∧ isD t n i = false)) : I 336 12 = -1 := by
  rw [h.2.2, decide_eq_false]
  · rfl
  · rintro ⟨a, b⟩
    rcases ho with q | q
    · exact q a
    · rw [q.1, q.2] at b
      rcases b with b | b <;> exact absurd b (by decide)
/-- one number and the state's place it goes to -/
theorem r_one {I : MI} {B : St} {w i what : Nat} {x1 x2 : Int32} {Q : MI → Prop} (hT : RT I t n) (h8 : I 336 8 = nI i) (hi : i ≤ n) (hi0 : 0 < i) (hp : isL t n (i - 1) = true) (h12 : I 336 12 = -1) (hR : RR I B []) (hw : w < 3) (hwh : what = w + 2) (hx1 : x1 = nI (lowN w)) (hx2 : x2 = nI (hghN w) - 1) (hQ : ∀ I', FL I I' → NS I' t n B w (pNums t n B (numN w) (fstN w) i []) → Q I') : wp_X10_readOne I (nI what) x1 x2 Q := by
  have hb : (lowN w, hghN w) = bd B w := by
    unfold bd
    rw [if_neg (by omega), if_neg (by omega)]
  have hfn : fstN w = w ∧ numN w = 1 := by
    obtain rfl | rfl | rfl : w = 0 ∨ w = 1 ∨ w = 2 := by omega
    all_goals exact ⟨rfl, rfl⟩
  have hlo : lowN w ≤ 1 ∧ hghN w ≤ 31 := by
    obtain rfl | rfl | rfl : w = 0 ∨ w = 1 ∨ w = 2 := by omega
    all_goals exact ⟨by decide, by decide⟩
  rw [hfn.1, hfn.2] at hQ
  have vp : vp_in (nI what) 2212 := vp_in_nI (by omega) (by omega)
  unfold wp_X10_readOne
  refine r_next hT h8 hi hi0 (Or.inl hp) h12 (fun I1 f1 n1 => ?_)
  refine r_num (b := bd B w) (f1.rt hT) n1 hi (by rw [hx1, ← hb]) (by rw [hx2, ← hb]) (by rw [← hb]; exact hlo.1) (by rw [← hb]; exact hlo.2) (fun ho I3 f3 n3 => ?_) (fun ho x I3 f3 e3 => ?_)
  · have hd := okN_d ho hi
    rw [ix_nI (by omega)]
    have hR3 : RR I3 B [] := hR.cg (by rw [f3.m, f1.m])
    by_cases h3 : I3 336 12 = -1
    · refine ⟨fun q => absurd h3 q, fun _ => ⟨vp, fun I9 e9 => ?_⟩⟩
      have f9 : FL I3 I9 := (RF.u e9).fl
      have g336 : ∀ q, I9 336 q = I3 336 q := fun q => by rw [e9, u2_ne (by omega)]
      refine hQ I9 ((f1.fl.tr f3.fl).tr f9) ?_
      rw [pN1t ho]
      refine ⟨⟨by rw [g336]; exact n3.1, ?_, by rw [g336]; exact n3.2.2⟩, ?_⟩
      · have := n3.2.1
        unfold TK at this ⊢
        simp only [g336]
        exact this
      · intro _
        have e9' : I9 = u2 I3 337 (ri 1 what) (nI (dv t (skG t n i) (skD t n (skG t n i)))) := e9
        have := hR3.putN (j := 1) (i := what) (by unfold rd; simp; omega) e9'
        obtain rfl | rfl | rfl : w = 0 ∨ w = 1 ∨ w = 2 := by omega
        · subst hwh; exact this
        · subst hwh; exact this
        · subst hwh; exact this
    · refine ⟨fun _ => ⟨vp, vp, fun I7 e7 => ?_⟩, fun q => absurd q h3⟩
      have e77 : I7 = I3 := by
        rw [e7]
        funext a b
        rw [u2_at]
        by_cases hc : a = 337 ∧ b = what
        · rw [if_pos hc, hc.1, hc.2]
        · rw [if_neg hc]
      rw [e77]
      refine hQ I3 (f1.fl.tr f3.fl) ?_
      rw [pN1t ho]
      exact ⟨n3, fun q => absurd q h3⟩
  · have hne : ¬ I3 336 12 = -1 := by rw [e3]; exact skG_nm hT.1 hi
    refine ⟨fun _ => ⟨vp, vp, fun I7 e7 => ?_⟩, fun q => absurd q hne⟩
    refine hQ I7 ((f1.fl.tr f3.fl).tr (RF.u e7).fl) ?_
    rw [pN1f ho]
    show I7 336 12 = _
    rw [e7, u2_ne (by omega)]
    exact e3
theorem NT.fr {I I' : MI} {i : Nat} (h : NT I t n i) (e : I' 336 = I 336) : NT I' t n i := by
  unfold NT TK at h ⊢
  rw [e]
  exact h
theorem bdc {B : St} {p : Nat} (h : p ≠ 7 ∧ p ≠ 8 ∧ p ≠ 12) : bd B p = (lowN p, hghN p) := by
  unfold bd
  rw [if_neg h.1, if_neg (by omega)]
theorem r_part3 {I : MI} {B : St} {i : Nat} {Q : MI → Prop} (hT : RT I t n) (h8 : I 336 8 = nI i) (hi : i ≤ n) (hi0 : 0 < i) (hp : isL t n (i - 1) = true) (h12 : I 336 12 = -1) (hR : RR I B []) (hP : sN B 1 0 ≤ 2) (hQ : ∀ I', FL I I' → NS I' t n B 3 (pNums t n B (numN 3) (fstN 3) i []) → Q I') : jn_X10_readPart_18 I Q := by
  have b3 : bd B 3 = (1, 31) := rfl
  have b4 : bd B 4 = (0, 10) := rfl
  have b5 : bd B 5 = (1, 10) := rfl
  unfold jn_X10_readPart_18
  refine r_next hT h8 hi hi0 (Or.inl hp) h12 (fun I3 f3 n3 => ?_)
  have T3 := f3.rt hT
  refine r_num (b := bd B 3) T3 n3 hi rfl (by rw [bdc (by decide)]; decide) (by rw [bdc (by decide)]; decide) (by rw [bdc (by decide)]; decide) (fun o1 I5 f5 n5 => ?_) (fun o1 x I5 f5 e5 => ?_)
  · have T5 := f5.rt T3
    have d1 := (okN_d o1 hi).1
    refine r_num (b := bd B 4) T5 n5 d1 rfl (by rw [bdc (by decide)]; decide) (by rw [bdc (by decide)]; decide) (by rw [bdc (by decide)]; decide) (fun o2 I7 f7 n7 => ?_) (fun o2 x I7 f7 e7 => ?_)
    · have T7 := f7.rt T5
      have d2 := (okN_d o2 d1).1
      refine r_num (b := bd B 5) T7 n7 d2 rfl (by rw [bdc (by decide)]; decide) (by rw [bdc (by decide)]; decide) (by rw [bdc (by decide)]; decide) (fun o3 I9 f9 n9 => ?_) (fun o3 x I9 f9 e9 => ?_)
      · have fa := ((f3.fl.tr f5.fl).tr f7.fl).tr f9.fl
        have hR9 : RR I9 B [] := hR.cg (by rw [f9.m, f7.m, f5.m, f3.m])
        by_cases h9 : I9 336 12 = -1
        · refine ⟨fun q => absurd h9 q, fun _ => ?_⟩
          have g0 : I9 337 0 = nI (sN B 1 0) := hR9.n (j := 1) (i := 0) (by decide)
          rw [show ix 0 = 0 from by decide, g0, show (20 : Int32) + nI (sN B 1 0) = nI (20 + sN B 1 0) from nI_add 20 _, ix_nI (by omega)]
          refine ⟨v0, vp_in_nI (by omega) (by omega), fun I13 e13 => ?_⟩
          have h13 := hR9.putN (j := 2) (i := sN B 1 0) (by unfold rd; simp; omega) e13
          have g13 : I13 337 0 = nI (sN B 1 0) := h13.n (j := 1) (i := 0) (by decide)
          rw [g13, show (23 : Int32) + nI (sN B 1 0) = nI (23 + sN B 1 0) from nI_add 23 _, ix_nI (by omega)]
          refine ⟨v0, vp_in_nI (by omega) (by omega), fun I16 e16 => ?_⟩
          have h16 := h13.putN (j := 3) (i := sN B 1 0) (by unfold rd; simp; omega) e16
          have g16 : I16 337 0 = nI (sN B 1 0) := h16.n (j := 1) (i := 0) (by decide)
          rw [g16, show (26 : Int32) + nI (sN B 1 0) = nI (26 + sN B 1 0) from nI_add 26 _, ix_nI (by omega)]
          refine ⟨v0, vp_in_nI (by omega) (by omega), fun I19 e19 => ⟨v0, v0, fun I22 e22 => ?_⟩⟩
          have h19 := h16.putN (j := 4) (i := sN B 1 0) (by unfold rd; simp; omega) e19
          have g19 : I19 337 0 = nI (sN B 1 0) := h19.n (j := 1) (i := 0) (by decide)
          rw [g19, nI_1] at e22
          have h22 := h19.putN (j := 1) (i := 0) (by decide) e22
          refine hQ I22 (fa.tr ((((RF.u e13).tr (RF.u e16)).tr (RF.u e19)).tr (RF.u e22)).fl) ?_
          rw [show numN 3 = 3 from rfl, show fstN 3 = 3 from rfl, pN1t o1, pN1t o2, pN1t o3]
          exact ⟨n9.fr (by rw [e22, u2_ne (by omega), e19, u2_ne (by omega), e16, u2_ne (by omega), e13, u2_ne (by omega)]), fun _ => h22⟩
        · refine ⟨fun _ => hQ I9 fa ?_, fun q => absurd q h9⟩
          rw [show numN 3 = 3 from rfl, show fstN 3 = 3 from rfl, pN1t o1, pN1t o2, pN1t o3]
          exact ⟨n9, fun q => absurd q h9⟩
      · have hne : ¬ I9 336 12 = -1 := by rw [e9]; exact skG_nm hT.1 d2
        refine ⟨fun _ => hQ I9 (((f3.fl.tr f5.fl).tr f7.fl).tr f9.fl) ?_, fun q => absurd q hne⟩
        rw [show numN 3 = 3 from rfl, show fstN 3 = 3 from rfl, pN1t o1, pN1t o2, pN1f o3]
        exact e9
    · have hne : ¬ I7 336 12 = -1 := by rw [e7]; exact skG_nm hT.1 d1
      refine r_numF hne ⟨fun _ => hQ I7 ((f3.fl.tr f5.fl).tr f7.fl) ?_, fun q => absurd q hne⟩
      rw [show numN 3 = 3 from rfl, show fstN 3 = 3 from rfl, pN1t o1, pN1f o2]
      exact e7
  · have hne : ¬ I5 336 12 = -1 := by rw [e5]; exact skG_nm hT.1 hi
    refine r_numF hne (r_numF hne ⟨fun _ => hQ I5 (f3.fl.tr f5.fl) ?_, fun q => absurd q hne⟩)
    rw [show numN 3 = 3 from rfl, show fstN 3 = 3 from rfl, pN1f o1]
    exact e5
theorem r_base4 {I : MI} {B : St} {i : Nat} {Q : MI → Prop} (hT : RT I t n) (h8 : I 336 8 = nI i) (hi : i ≤ n) (hi0 : 0 < i) (hp : isL t n (i - 1) = true) (h12 : I 336 12 = -1) (hR : RR I B []) (hP : sN B 1 1 ≤ 2) (hQ : ∀ I', FL I I' → NS I' t n B 4 (pNums t n B (numN 4) (fstN 4) i []) → Q I') : jn_X10_readBase_18 I Q := by
  unfold jn_X10_readBase_18
  refine r_next hT h8 hi hi0 (Or.inl hp) h12 (fun I3 f3 n3 => ?_)
  have T3 := f3.rt hT
  refine r_num (b := bd B 6) T3 n3 hi rfl (by rw [bdc (by decide)]; decide) (by rw [bdc (by decide)]; decide) (by rw [bdc (by decide)]; decide) (fun o1 I5 f5 n5 => ?_) (fun o1 x I5 f5 e5 => ?_)
  · have fa := f3.fl.tr f5.fl
    have hR5 : RR I5 B [] := hR.cg (by rw [f5.m, f3.m])
    by_cases h9 : I5 336 12 = -1
    · refine ⟨fun q => absurd h9 q, fun _ => ?_⟩
      have g0 : I5 337 1 = nI (sN B 1 1) := hR5.n (j := 1) (i := 1) (by decide)
      rw [show ix 1 = 1 from by decide, g0, show (29 : Int32) + nI (sN B 1 1) = nI (29 + sN B 1 1) from nI_add 29 _, ix_nI (by omega)]
      refine ⟨v1, vp_in_nI (by omega) (by omega), fun I9 e9 => ⟨v1, v1, fun I12 e12 => ?_⟩⟩
      have h9' := hR5.putN (j := 6) (i := sN B 1 1) (by unfold rd; simp; omega) e9
      have g9 : I9 337 1 = nI (sN B 1 1) := h9'.n (j := 1) (i := 1) (by decide)
      rw [g9, nI_1] at e12
      have h12' := h9'.putN (j := 1) (i := 1) (by decide) e12
      refine hQ I12 (fa.tr ((RF.u e9).tr (RF.u e12)).fl) ?_
      rw [show numN 4 = 1 from rfl, show fstN 4 = 6 from rfl, pN1t o1]
      exact ⟨n5.fr (by rw [e12, u2_ne (by omega), e9, u2_ne (by omega)]), fun _ => h12'⟩
    · refine ⟨fun _ => hQ I5 fa ?_, fun q => absurd q h9⟩
      rw [show numN 4 = 1 from rfl, show fstN 4 = 6 from rfl, pN1t o1]
      exact ⟨n5, fun q => absurd q h9⟩
  · have hne : ¬ I5 336 12 = -1 := by rw [e5]; exact skG_nm hT.1 hi
    refine ⟨fun _ => hQ I5 (f3.fl.tr f5.fl) ?_, fun q => absurd q hne⟩
    rw [show numN 4 = 1 from rfl, show fstN 4 = 6 from rfl, pN1f o1]
    exact e5
theorem r_works6 {I : MI} {B : St} {i : Nat} {Q : MI → Prop} (hT : RT I t n) (h8 : I 336 8 = nI i) (hi : i ≤ n) (hi0 : 0 < i) (hp : isL t n (i - 1) = true) (h12 : I 336 12 = -1) (hR : RR I B []) (hP : sN B 1 0 ≤ 3) (hQ : ∀ I', FL I I' → NS I' t n B 6 (pNums t n B (numN 6) (fstN 6) i []) → Q I') : wp_X10_readWorks I Q := by
  have b12 : bd B 12 = (0, sN B 1 0) := rfl
  unfold wp_X10_readWorks
  refine r_next hT h8 hi hi0 (Or.inl hp) h12 (fun I1 f1 n1 => ?_)
  have T1 := f1.rt hT
  have hR1 : RR I1 B [] := hR.cg f1.m
  have g0 : I1 337 0 = nI (sN B 1 0) := hR1.n (j := 1) (i := 0) (by decide)
  rw [show ix 0 = 0 from by decide, g0]
  refine ⟨v0, r_num (b := bd B 12) T1 n1 hi rfl (by rw [b12]) (by rw [b12]; exact Nat.zero_le _) (by rw [b12]; show sN B 1 0 ≤ 31; omega) (fun o1 I4 f4 n4 => ?_) (fun o1 x I4 f4 e4 => ?_)⟩
  · have T4 := f4.rt T1
    have d1 := okN_d o1 hi
    rw [b12] at d1
    refine r_num (b := bd B 13) T4 n4 d1.1 rfl (by rw [bdc (by decide)]; decide) (by rw [bdc (by decide)]; decide) (by rw [bdc (by decide)]; decide) (fun o2 I6 f6 n6 => ?_) (fun o2 x I6 f6 e6 => ?_)
    · have fa := (f1.fl.tr f4.fl).tr f6.fl
      have hR6 : RR I6 B [] := hR1.cg (by rw [f6.m, f4.m])
      have hv : dv t (skG t n i) (skD t n (skG t n i)) < sN B 1 0 := d1.2.2
      by_cases h9 : I6 336 12 = -1
      · refine ⟨fun q => absurd h9 q, fun _ => ?_⟩
        rw [show (59 : Int32) + nI (dv t (skG t n i) (skD t n (skG t n i))) = nI (59 + dv t (skG t n i) (skD t n (skG t n i))) from nI_add 59 _, ix_nI (by omega)]
        refine ⟨vp_in_nI (by omega) (by omega), fun I9 e9 => ?_⟩
        have h9' := hR6.putN (j := 5) (i := dv t (skG t n i) (skD t n (skG t n i))) (by unfold rd; simp; omega) e9
        refine hQ I9 (fa.tr (RF.u e9).fl) ?_
        rw [show numN 6 = 2 from rfl, show fstN 6 = 12 from rfl, pN1t o1, pN1t o2]
        exact ⟨n6.fr (by rw [e9, u2_ne (by omega)]), fun _ => h9'⟩
      · refine ⟨fun _ => hQ I6 fa ?_, fun q => absurd q h9⟩
        rw [show numN 6 = 2 from rfl, show fstN 6 = 12 from rfl, pN1t o1, pN1t o2]
        exact ⟨n6, fun q => absurd q h9⟩
    · have hne : ¬ I6 336 12 = -1 := by rw [e6]; exact skG_nm hT.1 d1.1
      refine ⟨fun _ => hQ I6 ((f1.fl.tr f4.fl).tr f6.fl) ?_, fun q => absurd q hne⟩
      rw [show numN 6 = 2 from rfl, show fstN 6 = 12 from rfl, pN1t o1, pN1f o2]
      exact e6
  · have hne : ¬ I4 336 12 = -1 := by rw [e4]; exact skG_nm hT.1 hi
    refine r_numF hne ⟨fun _ => hQ I4 (f1.fl.tr f4.fl) ?_, fun q => absurd q hne⟩
    rw [show numN 6 = 2 from rfl, show fstN 6 = 12 from rfl, pN1f o1]
    exact e4
theorem r_cell5 {I : MI} {B : St} {i : Nat} {Q : MI → Prop} (hT : RT I t n) (h8 : I 336 8 = nI i) (hi : i ≤ n) (hi0 : 0 < i) (hp : isL t n (i - 1) = true) (h12 : I 336 12 = -1) (hR : RR I B []) (hP : sN B 1 0 ≤ 3) (hP1 : sN B 1 1 ≤ 3) (hQ : ∀ I', FL I I' → NS I' t n B 5 (pNums t n B (numN 5) (fstN 5) i []) → Q I') : wp_X10_readCell I Q := by
  have b7 : bd B 7 = (0, sN B 1 1) := rfl
  have b8 : bd B 8 = (0, sN B 1 0) := rfl
  rw [show numN 5 = 5 from rfl, show fstN 5 = 7 from rfl] at hQ
  unfold wp_X10_readCell
  refine r_next hT h8 hi hi0 (Or.inl hp) h12 (fun I1 f1 n1 => ?_)
  have T1 := f1.rt hT
  have hR1 : RR I1 B [] := hR.cg f1.m
  have g1 : I1 337 1 = nI (sN B 1 1) := hR1.n (j := 1) (i := 1) (by decide)
  rw [show ix 1 = 1 from by decide, g1, show ix 0 = 0 from by decide]
  refine ⟨v1, r_num (b := bd B 7) T1 n1 hi rfl (by rw [b7]) (by rw [b7]; exact Nat.zero_le _) (by rw [b7]; show sN B 1 1 ≤ 31; omega) (fun o1 I4 f4 n4 => ?_) (fun o1 x I4 f4 e4 => ?_)⟩
  · have T4 := f4.rt T1
    have d1 := okN_d o1 hi
    rw [b7] at d1
    rw [pN1t o1] at hQ
    have hR4 : RR I4 B [] := hR1.cg f4.m
    have g0 : I4 337 0 = nI (sN B 1 0) := hR4.n (j := 1) (i := 0) (by decide)
    rw [g0]
    have fb1 := f1.fl.tr f4.fl
    clear o1 n1 f1 f4 g1 hR1 T1
    generalize dv t (skG t n i) (skD t n (skG t n i)) = b at *
    generalize skD t n (skG t n i) = i1 at *
    have hb : b < sN B 1 1 := d1.2.2
    refine ⟨v0, r_num (b := bd B 8) T4 n4 d1.1 rfl (by rw [b8]) (by rw [b8]; exact Nat.zero_le _) (by rw [b8]; show sN B 1 0 ≤ 31; omega) (fun o2 I7 f7 n7 => ?_) (fun o2 x I7 f7 e7 => ?_)⟩
    · have T7 := f7.rt T4
      have d2 := okN_d o2 d1.1
      rw [b8] at d2
      rw [pN1t o2] at hQ
      have hR7 : RR I7 B [] := hR4.cg f7.m
      have fb2 := fb1.tr f7.fl
      clear o2 n4 f7 g0 hR4 T4 fb1
      generalize dv t (skG t n i1) (skD t n (skG t n i1)) = p at *
      generalize skD t n (skG t n i1) = i2 at *
      have hc : p < sN B 1 0 := d2.2.2
      refine r_num (b := bd B 9) T7 n7 d2.1 rfl (by rw [bdc (by decide)]; decide) (by rw [bdc (by decide)]; decide) (by rw [bdc (by decide)]; decide) (fun o3 I9 f9 n9 => ?_) (fun o3 x I9 f9 e9 => ?_)
      · have T9 := f9.rt T7
        have d3 := (okN_d o3 d2.1).1
        rw [pN1t o3] at hQ
        have hR9 : RR I9 B [] := hR7.cg f9.m
        have fb3 := fb2.tr f9.fl
        clear o3 n7 f9 hR7 T7 fb2
        generalize dv t (skG t n i2) (skD t n (skG t n i2)) = x3 at *
        generalize skD t n (skG t n i2) = i3 at *
        refine r_num (b := bd B 10) T9 n9 d3 rfl (by rw [bdc (by decide)]; decide) (by rw [bdc (by decide)]; decide) (by rw [bdc (by decide)]; decide) (fun o4 I11 f11 n11 => ?_) (fun o4 x I11 f11 e11 => ?_)
        · have T11 := f11.rt T9
          have d4 := (okN_d o4 d3).1
          rw [pN1t o4] at hQ
          have hR11 : RR I11 B [] := hR9.cg f11.m
          have fb4 := fb3.tr f11.fl
          clear o4 n9 f11 hR9 T9 fb3
          generalize dv t (skG t n i3) (skD t n (skG t n i3)) = x4 at *
          generalize skD t n (skG t n i3) = i4 at *
          refine r_num (b := bd B 11) T11 n11 d4 rfl (by rw [bdc (by decide)]; decide) (by rw [bdc (by decide)]; decide) (by rw [bdc (by decide)]; decide) (fun o5 I13 f13 n13 => ?_) (fun o5 x I13 f13 e13 => ?_)
          · have fa := fb4.tr f13.fl
            have hR13 : RR I13 B [] := hR11.cg f13.m
            rw [pN1t o5] at hQ
            clear o5 n11 f13 hR11 T11 fb4
            generalize dv t (skG t n i4) (skD t n (skG t n i4)) = x5 at *
            generalize skD t n (skG t n i4) = i5 at *
            have hQ' : ∀ I', FL I I' → NT I' t n i5 → (I' 336 12 = -1 → RR I' (setN (setN (setN B 7 (4 * b + p) x3) 8 (4 * b + p) x4) 9 (4 * b + p) x5) []) → Q I' := fun I' a1 a2 a3 => hQ I' a1 ⟨a2, a3⟩
            clear hQ
            by_cases h9 : I13 336 12 = -1
            · refine ⟨fun q => absurd h9 q, fun _ => r_cellOf ?_⟩
              rw [show (32 : Int32) + nI (3 * b + p) = nI (32 + (3 * b + p)) from nI_add 32 _, ix_nI (by omega)]
              refine ⟨vp_in_nI (by omega) (by omega), fun I17 e17 => r_cellOf ?_⟩
              rw [show (41 : Int32) + nI (3 * b + p) = nI (41 + (3 * b + p)) from nI_add 41 _, ix_nI (by omega)]
              refine ⟨vp_in_nI (by omega) (by omega), fun I20 e20 => r_cellOf ?_⟩
              rw [show (50 : Int32) + nI (3 * b + p) = nI (50 + (3 * b + p)) from nI_add 50 _, ix_nI (by omega)]
              refine ⟨vp_in_nI (by omega) (by omega), fun I23 e23 => ?_⟩
              have r7 : ri 7 (4 * b + p) = 32 + (3 * b + p) := by
                show 32 + (3 * ((4 * b + p) / 4) + (4 * b + p) % 4) = _
                omega
              have r8 : ri 8 (4 * b + p) = 41 + (3 * b + p) := ri8 (by omega)
              have r9 : ri 9 (4 * b + p) = 50 + (3 * b + p) := by
                show 50 + (3 * ((4 * b + p) / 4) + (4 * b + p) % 4) = _
                omega
              rw [← r7] at e17
              rw [← r8] at e20
              rw [← r9] at e23
              have h17 := hR13.putN (j := 7) (i := 4 * b + p) (rdC (by omega) (by omega) (by omega) (by omega)) e17
              have h20 := h17.putN (j := 8) (i := 4 * b + p) (rdC (by omega) (by omega) (by omega) (by omega)) e20
              have h23 := h20.putN (j := 9) (i := 4 * b + p) (rdC (by omega) (by omega) (by omega) (by omega)) e23
              exact hQ' I23 (fa.tr (((RF.u e17).tr (RF.u e20)).tr (RF.u e23)).fl) (n13.fr (by rw [e23, u2_ne (by omega), e20, u2_ne (by omega), e17, u2_ne (by omega)])) (fun _ => h23)
            · exact ⟨fun _ => hQ' I13 fa n13 (fun q => absurd q h9), fun q => absurd q h9⟩
          · have hne : ¬ I13 336 12 = -1 := by rw [e13]; exact skG_nm hT.1 d4
            rw [pN1f o5] at hQ
            exact ⟨fun _ => hQ I13 (fb4.tr f13.fl) e13, fun q => absurd q hne⟩
        · have hne : ¬ I11 336 12 = -1 := by rw [e11]; exact skG_nm hT.1 d3
          rw [pN1f o4] at hQ
          exact r_numF hne ⟨fun _ => hQ I11 (fb3.tr f11.fl) e11, fun q => absurd q hne⟩
      · have hne : ¬ I9 336 12 = -1 := by rw [e9]; exact skG_nm hT.1 d2.1
        rw [pN1f o3] at hQ
        exact r_numF hne (r_numF hne ⟨fun _ => hQ I9 (fb2.tr f9.fl) e9, fun q => absurd q hne⟩)
    · have hne : ¬ I7 336 12 = -1 := by rw [e7]; exact skG_nm hT.1 d1.1
      rw [pN1f o2] at hQ
      exact r_numF hne (r_numF hne (r_numF hne ⟨fun _ => hQ I7 (fb1.tr f7.fl) e7, fun q => absurd q hne⟩))
  · have hne : ¬ I4 336 12 = -1 := by rw [e4]; exact skG_nm hT.1 hi
    rw [pN1f o1] at hQ
    exact ⟨v0, r_numF hne (r_numF hne (r_numF hne (r_numF hne ⟨fun _ => hQ I4 (f1.fl.tr f4.fl) e4, fun q => absurd q hne⟩)))⟩
end RREAE
