/-! by odds: the buys -/
theorem lkV_d : ∀ u, u < 9 → ∀ o, o < 13 → ∀ s, s < 10 → lkV u o (s + 1) ≤ lkV u o s ∧ lkV u o s ≤ 3439853568 ∧ (u ≤ s → lkV u o s = 0) := by decide +kernel
/-- what a spare more of a cell gains -/
def gn (A : St) (f : Nat → Nat) (c : Nat) : Nat := if 9 ≤ f c then 0 else lkc A c (f c) - lkc A c (f c + 1)
def nbS (A : St) (f : Nat → Nat) (st : Option Nat) (c : Nat) : Option Nat := if gn A f c = 0 then st else match st with
  | none => some c
  | some q => if gn A f q * sN A 2 (c % 4) < gn A f c * sN A 2 (q % 4) then some c else some q
def nbP (A : St) (f : Nat → Nat) (b : Nat) : Nat → Nat → Option Nat → Option Nat
  | 0, _, st => st
  | m + 1, p, st => nbP A f b m (p + 1) (nbS A f st (4 * b + p))
def nbB (A : St) (f : Nat → Nat) : Nat → Nat → Option Nat → Option Nat
  | 0, _, st => st
  | m + 1, b, st => nbB A f m (b + 1) (nbP A f b (sN A 1 0) 0 st)
/-- the cell of the next buy -/
def nextB (A : St) (f : Nat → Nat) : Option Nat := nbB A f (sN A 1 1) 0 none
def okB (A : St) (f : Nat → Nat) (st : Option Nat) : Prop := ∀ c, st = some c → vc A c ∧ gn A f c ≠ 0
theorem nbS_ok {A : St} {f : Nat → Nat} {st : Option Nat} {c : Nat} (h : okB A f st) (hc : vc A c) : okB A f (nbS A f st c) := by
  unfold nbS
  by_cases h0 : gn A f c = 0
  · rw [if_pos h0]; exact h
  · rw [if_neg h0]
    cases st with
    | none => intro q e; cases e; exact ⟨hc, h0⟩
    | some q =>
      simp only
      by_cases h1 : gn A f q * sN A 2 (c % 4) < gn A f c * sN A 2 (q % 4)
      · rw [if_pos h1]; intro q' e; cases e; exact ⟨hc, h0⟩
      · rw [if_neg h1]; exact h
theorem nbP_ok {A : St} {f : Nat → Nat} {b : Nat} (hb : b < sN A 1 1) (h3 : sN A 1 0 ≤ 3) : ∀ (m p : Nat) (st : Option Nat), p + m = sN A 1 0 → okB A f st → okB A f (nbP A f b m p st)
  | 0, p, st, _, h => h
  | m + 1, p, st, hp, h => nbP_ok hb h3 m (p + 1) _ (by omega) (nbS_ok h ⟨by omega, by omega⟩)
theorem nbB_ok {A : St} {f : Nat → Nat} (h3 : sN A 1 0 ≤ 3) : ∀ (m b : Nat) (st : Option Nat), b + m = sN A 1 1 → okB A f st → okB A f (nbB A f m b st)
  | 0, b, st, _, h => h
  | m + 1, b, st, hb, h => nbB_ok h3 m (b + 1) _ (by omega) (nbP_ok (by omega) h3 (sN A 1 0) 0 st (by omega) h)
theorem nextB_ok {A : St} {f : Nat → Nat} {c : Nat} (hs : SetOk A) (h : nextB A f = some c) : vc A c ∧ gn A f c ≠ 0 := nbB_ok hs.1.1 (sN A 1 1) 0 none (by omega) (fun _ e => by cases e) c h
theorem gn_lt {A : St} {f : Nat → Nat} {c : Nat} (hs : SetOk A) (hc : c < 16) (h : gn A f c ≠ 0) : f c < sN A 7 c := by
  obtain ⟨hu, ho⟩ := uo_b hs hc
  unfold gn at h
  by_cases h9 : 9 ≤ f c
  · rw [if_pos h9] at h; exact absurd rfl h
  · rw [if_neg h9] at h
    rcases Nat.lt_or_ge (f c) (sN A 7 c) with q | q
    · exact q
    · have := (lkV_d _ hu _ ho (f c) (by omega)).2.2 q
      unfold lkc at h
      omega
theorem gn_b {A : St} {f : Nat → Nat} {c : Nat} (hs : SetOk A) (hc : c < 16) : gn A f c ≤ 3439853568 := by
  obtain ⟨hu, ho⟩ := uo_b hs hc
  unfold gn
  by_cases h9 : 9 ≤ f c
  · rw [if_pos h9]; omega
  · rw [if_neg h9]
    have := (lkV_d _ hu _ ho (f c) (by omega)).2.1
    unfold lkc
    omega
def bump (f : Nat → Nat) (c : Nat) : Nat → Nat := fun k => if k = c then f c + 1 else f k
/-- the buys: cell, how many of it then, what all cost -/
def blF (A : St) : Nat → (Nat → Nat) → Nat → List (Nat × Nat × Nat)
  | 0, _, _ => []
  | m + 1, f, s => match nextB A f with
    | none => []
    | some c => (c, f c + 1, s + sN A 2 (c % 4)) :: blF A m (bump f c) (s + sN A 2 (c % 4))
def bL (A : St) : List (Nat × Nat × Nat) := blF A 72 (fun _ => 0) 0
theorem nbS_eq {A : St} {f : Nat → Nat} {st : Option Nat} {c : Nat} : nbS A f st c = if gn A f c = 0 then st else match st with
  | none => some c
  | some q => if gn A f q * sN A 2 (c % 4) < gn A f c * sN A 2 (q % 4) then some c else some q := rfl
/-- the class's state while it looks for the next buy -/
def nbC (A : St) (f : Nat → Nat) (st : Option Nat) (x : Int32) (g : Int64) (pr : Int32) : Prop := match st with
  | none => x = -1 ∧ g = 0 ∧ pr = 1
  | some q => x = nI q ∧ g = lN (gn A f q) ∧ pr = nI (sN A 2 (q % 4))
section CBUY
variable {I : MI} {L : ML} {A : St} {f : Nat → Nat}
theorem c_gainOf {c : Nat} {Q : Int64 → Prop} (hs : SetOk A) (hW : WL L A) (hc : c < 16) (hf : I 332 c = nI (f c)) (hf9 : f c ≤ 9) (hQ : Q (lN (gn A f c))) : wp_X8_gainOf I L (nI c) Q := by
  obtain ⟨hu, ho⟩ := uo_b hs hc
  unfold wp_X8_gainOf
  rw [nI_m15, Nat.mod_eq_of_lt hc, ix_nI (by omega), hf]
  unfold gn at hQ
  refine ⟨vp_in_nI hc (by omega), pk_le 9 (f c) (fun z => ?_) (fun z => ?_)⟩
  · rw [if_pos z] at hQ; exact hQ
  · rw [if_neg (by omega)] at hQ
    have d := lkV_d _ hu _ ho (f c) (by omega)
    refine c_lackOf hc (by omega) ?_
    rw [nI_1]
    refine c_lackOf hc (by omega) ?_
    rw [hW.2 c hc _ (by omega), hW.2 c hc _ (by omega), lN_sub d.1]
    exact hQ
theorem c_nextBuy {Q : Int32 → Prop} (hP : PR 3 I A) (hs : SetOk A) (hW : WL L A) (hf : ∀ c, c < 16 → I 332 c = nI (f c) ∧ f c ≤ 9) (hQ : ∀ c, nextB A f = some c → Q (nI c)) (hQ0 : nextB A f = none → Q (-1)) : wp_X8_nextBuy 3 I L Q := by
  have h1 := hs.1.1
  have h2 := hs.1.2.1
  have e0 : I 3 0 = nI (sN A 1 0) := hP 0 0 (nd1 (by omega)) (by omega)
  have e1 : I 3 1 = nI (sN A 1 1) := hP 0 1 (nd1 (by omega)) (by omega)
  have pr : ∀ p, p < 4 → I (3 + 1) p = nI (sN A 2 p) ∧ sN A 2 p ≤ 30 := fun p hp => ⟨hP 1 p (ndp (by omega) (by omega) hp) (by omega), (hs.2.1 p hp).1⟩
  have inner : ∀ (b : Nat) (kf : Int32 → Int64 → Int32 → Prop), b < sN A 1 1 → ∀ (m p : Nat) (st : Option Nat) (x : Int32) (g : Int64) (w : Int32), p + m = sN A 1 0 → okB A f st → nbC A f st x g w → (∀ x g w, nbC A f (nbP A f b m p st) x g w → kf x g w) → lp_X8_nextBuy_28 3 I L (nI b) kf (m + 1) x g w (nI p) := by
    intro b kf hb m
    induction m with
    | zero =>
      intro p st x g w hp ho hn hk
      unfold lp_X8_nextBuy_28
      rw [e0]
      exact ⟨fun _ => hk x g w hn, fun z => absurd (nI_le (by omega) (by omega)) z⟩
    | succ m ih =>
      intro p st x g w hp ho hn hk
      have h16 : 4 * b + p < 16 := by omega
      have hv : vc A (4 * b + p) := ⟨by omega, by omega⟩
      obtain ⟨f1, f2⟩ := hf (4 * b + p) h16
      obtain ⟨p1, p2⟩ := pr p (by omega)
      have hpm : (4 * b + p) % 4 = p := by omega
      have gb := gn_b (f := f) hs h16
      have gp : gn A f (4 * b + p) * 30 ≤ 3439853568 * 30 := Nat.mul_le_mul_right _ gb
      have ho' := nbS_ok ho hv
      have vp : vp_in (nI p) 4 := vp_in_nI (by omega) (by omega)
      unfold lp_X8_nextBuy_28 jn_X8_nextBuy_95
      rw [e0, show (3 : Int32) = nI 3 from rfl, ix_nI (n := p) (by omega), p1]
      refine ⟨fun z => absurd z (nI_ge (by omega) (by omega)), fun _ => ⟨fun z => absurd z (nI_ge (by omega) (by omega)), fun _ => s_placeOf (c_gainOf (f := f) hs hW h16 f1 f2 ⟨vp, ?_⟩)⟩⟩
      rw [nI_l (by omega), nI_1]
      have step : ∀ x g w, nbC A f (nbS A f st (4 * b + p)) x g w → lp_X8_nextBuy_28 3 I L (nI b) kf (m + 1) x g w (nI (p + 1)) := fun x g w h => ih (p + 1) _ x g w (by omega) ho' h hk
      cases st with
      | none =>
        obtain ⟨rfl, rfl, rfl⟩ := hn
        rw [show (0 : Int64) = lN 0 from rfl, lN_mul, show ((1 : Int32).toInt64) = lN 1 from rfl, lN_mul, lg_cmp_le, pk_lLE (by omega) (by omega), Nat.mul_one, Nat.zero_mul]
        refine ⟨fun z => step _ _ _ ?_, fun z => ⟨vp, step _ _ _ ?_⟩⟩
        · rw [nbS_eq, if_pos (by omega)]; exact ⟨rfl, rfl, rfl⟩
        · rw [nbS_eq, if_neg (by omega)]
          exact ⟨rfl, rfl, by rw [hpm]⟩
      | some q =>
        obtain ⟨rfl, rfl, rfl⟩ := hn
        obtain ⟨hq1, hq2⟩ := ho q rfl
        have hq12 := vc_lt hs hq1
        have gq := gn_b (f := f) hs (c := q) (by omega)
        obtain ⟨r1, r2⟩ := pr (q % 4) (by omega)
        have m1 : gn A f (4 * b + p) * sN A 2 (q % 4) ≤ 3439853568 * 30 := Nat.mul_le_mul gb r2
        have m2 : gn A f q * sN A 2 p ≤ 3439853568 * 30 := Nat.mul_le_mul gq p2
        rw [nI_l (by omega), lN_mul, lN_mul, lg_cmp_le, pk_lLE (by omega) (by omega)]
        refine ⟨fun z => step _ _ _ ?_, fun z => ⟨vp, step _ _ _ ?_⟩⟩
        · rw [nbS_eq]
          by_cases g0 : gn A f (4 * b + p) = 0
          · rw [if_pos g0]; exact ⟨rfl, rfl, rfl⟩
          · rw [if_neg g0]
            simp only
            rw [hpm, if_neg (by omega)]
            exact ⟨rfl, rfl, rfl⟩
        · have g0 : ¬ gn A f (4 * b + p) = 0 := fun g0 => by
            rw [g0, Nat.zero_mul] at z
            exact z (Nat.zero_le _)
          rw [nbS_eq, if_neg g0]
          simp only
          rw [hpm, if_pos (by omega)]
          exact ⟨rfl, rfl, by rw [hpm]⟩
  have outer : ∀ (m b : Nat) (st : Option Nat) (x : Int32) (g : Int64) (w : Int32), b + m = sN A 1 1 → okB A f st → nbC A f st x g w → nbB A f m b st = nextB A f → lp_X8_nextBuy_10 3 I L Q (m + 1) x g w (nI b) := by
    intro m
    induction m with
    | zero =>
      intro b st x g w hb ho hn hk
      unfold lp_X8_nextBuy_10
      rw [e1]
      refine ⟨fun _ => ?_, fun z => absurd (nI_le (by omega) (by omega)) z⟩
      have hk : st = nextB A f := hk
      cases st with
      | none => rw [hn.1]; exact hQ0 hk.symm
      | some q => rw [hn.1]; exact hQ q hk.symm
    | succ m ih =>
      intro b st x g w hb ho hn hk
      unfold lp_X8_nextBuy_10 jn_X8_nextBuy_101
      rw [e1, show (3 : Int32) = nI 3 from rfl]
      refine ⟨fun z => absurd z (nI_ge (by omega) (by omega)), fun _ => ⟨fun z => absurd z (nI_ge (by omega) (by omega)), fun _ => ⟨sN A 1 0 + 1, ?_⟩⟩⟩
      rw [← nI_0]
      refine inner b _ (by omega) (sN A 1 0) 0 st x g w (by omega) ho hn (fun x' g' w' h' => ?_)
      rw [nI_1]
      exact ih (b + 1) _ x' g' w' (by omega) (nbP_ok (by omega) h1 _ _ _ (by omega) ho) h' hk
  unfold wp_X8_nextBuy
  refine ⟨sN A 1 1 + 1, ?_⟩
  rw [← nI_0]
  exact outer (sN A 1 1) 0 none (-1) 0 1 (by omega) (fun _ e => by cases e) ⟨rfl, rfl, rfl⟩ rfl
end CBUY
/-- the class's buys are right -/
def BR (I : MI) (l : List (Nat × Nat × Nat)) : Prop := ∀ (q : Nat) (e : Nat × Nat × Nat), l[q]? = some e → I 329 q = nI e.1 ∧ I 330 q = nI e.2.1 ∧ I 331 q = nI e.2.2
def WB (I : MI) (A : St) : Prop := I 326 5 = nI (bL A).length ∧ BR I (bL A)
theorem BR.app {I I' : MI} {l : List (Nat × Nat × Nat)} {e : Nat × Nat × Nat} (h : BR I l) (hf : ∀ q, q < l.length → I' 329 q = I 329 q ∧ I' 330 q = I 330 q ∧ I' 331 q = I 331 q) (he : I' 329 l.length = nI e.1 ∧ I' 330 l.length = nI e.2.1 ∧ I' 331 l.length = nI e.2.2) : BR I' (l ++ [e]) := by
  intro q x hx
  by_cases hq : q < l.length
  · rw [List.getElem?_append_left hq] at hx
    obtain ⟨a, b, c⟩ := hf q hq
    rw [a, b, c]
    exact h q x hx
  · have hq2 := lt_of_get hx
    rw [List.length_append, List.length_singleton] at hq2
    have : q = l.length := by omega
    subst this
    rw [List.getElem?_append_right (Nat.le_refl _), Nat.sub_self] at hx
    cases hx
    exact he
theorem blF_le {A : St} : ∀ (m : Nat) (f : Nat → Nat) (s : Nat), (blF A m f s).length ≤ m
  | 0, f, s => Nat.le_refl _
  | m + 1, f, s => by
    unfold blF
    cases nextB A f with
    | none => exact Nat.zero_le _
    | some c => simp only [List.length_cons]; have := blF_le (A := A) m (bump f c) (s + sN A 2 (c % 4)); omega
/-- what learning changes in the class -/
def FW (I : MI) (L : ML) (I' : MI) (L' : ML) : Prop := (∀ k, k < 326 ∨ 336 ≤ k → I' k = I k) ∧ (∀ k, k < 326 ∨ 336 ≤ k → L' k = L k)
theorem FW.rf {I : MI} {L : ML} : FW I L I L := ⟨fun _ _ => rfl, fun _ _ => rfl⟩
theorem FW.tr {I I1 I2 : MI} {L L1 L2 : ML} (h : FW I L I1 L1) (h2 : FW I1 L1 I2 L2) : FW I L I2 L2 := ⟨fun k hk => (h2.1 k hk).trans (h.1 k hk), fun k hk => (h2.2 k hk).trans (h.2 k hk)⟩
theorem c_learnBuys {I : MI} {L : ML} {A : St} {Q : MI → ML → Prop} (hP : PR 3 I A) (hs : SetOk A) (hk : I 326 10 = 0 ∨ WL L A) (hk2 : I 326 11 = 0 ∨ WB I A) (hQ : ∀ I' L', WL L' A → WB I' A → ¬ I' 326 10 = 0 → I' 326 12 = I 326 12 → (∀ k, k = 334 ∨ k = 335 → I' k = I k) → L' 333 = L 333 → FW I L I' L' → Q I' L') : wp_X8_learnBuys 3 I L Q := by
  unfold wp_X8_learnBuys
  refine c_learnLack hP hs hk (fun I1 L1 w1 i1 l1 => ?_)
  have g11 : I1 326 11 = I 326 11 := i1.elim (fun e => by rw [e, u2_n2 (by omega)]) (fun e => by rw [e.1])
  have g12 : I1 326 12 = I 326 12 := i1.elim (fun e => by rw [e, u2_n2 (by omega)]) (fun e => by rw [e.1])
  have g5 : I1 326 5 = I 326 5 := i1.elim (fun e => by rw [e, u2_n2 (by omega)]) (fun e => by rw [e.1])
  have g10 : ¬ I1 326 10 = 0 := by
    rcases i1 with e | e
    · rw [e, u2_s]; decide
    · rw [e.1]; exact e.2
  have gk : ∀ k, k ≠ 326 → I1 k = I k := fun k hk => i1.elim (fun e => by rw [e, u2_ne hk]) (fun e => by rw [e.1])
  have hP1 : PR 3 I1 A := hP.fr (fun k a b => gk k (by omega))
  have fl : FW I L I1 L1 := ⟨fun k hk => gk k (by omega), fun k hk => l1 k (by omega) (by omega)⟩
  refine ⟨fun z => ⟨17, ?_⟩, fun z => ?_⟩
  · -- spares to 0
    have zero : ∀ (kf : MI → Prop) (m c : Nat) (J : MI), c + m = 16 → (∀ q, q < c → J 332 q = 0) → (∀ k, k ≠ 332 → J k = I1 k) → (∀ I', (∀ q, q < 16 → I' 332 q = 0) → (∀ k, k ≠ 332 → I' k = I1 k) → kf I') → lp_X8_learnBuys_15 kf (m + 1) (nI c) J := by
      intro kf m
      induction m with
      | zero =>
        intro c J hc a b k
        unfold lp_X8_learnBuys_15
        rw [show (16 : Int32) = nI 16 from rfl]
        exact ⟨fun _ => k J (fun q hq => a q (by omega)) b, fun z => absurd (nI_le (by omega) (by omega)) z⟩
      | succ m ih =>
        intro c J hc a b k
        unfold lp_X8_learnBuys_15
        rw [show (16 : Int32) = nI 16 from rfl, ix_nI (by omega), nI_1]
        refine ⟨fun z => absurd z (nI_ge (by omega) (by omega)), fun _ => ⟨vp_in_nI (by omega) (by omega), fun J2 e => ?_⟩⟩
        refine ih (c + 1) J2 (by omega) (fun q hq => ?_) (fun q hq => by rw [e, u2_ne hq]; exact b q hq) k
        by_cases h : q = c
        · rw [h, e, u2_s]
        · rw [e, u2_n2 h]; exact a q (by omega)
    rw [← nI_0]
    refine zero _ 16 0 I1 (by omega) (fun q hq => absurd hq (by omega)) (fun _ _ => rfl) (fun I8 a8 b8 I9 e9 => ⟨73, ?_⟩)
    have fin : ∀ (J J' : MI) (l : List (Nat × Nat × Nat)), l = bL A → J' = u2 J 326 11 1 → (∀ k, k < 326 ∨ k = 327 ∨ k = 328 ∨ k = 333 ∨ k = 334 ∨ k = 335 ∨ 336 ≤ k → J k = I1 k) → (∀ s, s ≠ 5 → J 326 s = I1 326 s) → J 326 5 = nI l.length → BR J l → Q J' L1 := by
      intro J J' l hl e fr fs h5 hb
      have gj : ∀ k, k ≠ 326 → J' k = J k := fun k hk => by rw [e, u2_ne hk]
      refine hQ J' L1 w1 ⟨?_, ?_⟩ ?_ ?_ (fun k hk => ?_) (l1 333 (by omega) (by omega)) (fl.tr ⟨fun k hk => ?_, fun _ _ => rfl⟩)
      · rw [e, u2_n2 (by omega), h5, hl]
      · rw [← hl]
        intro q x hx
        rw [gj 329 (by omega), gj 330 (by omega), gj 331 (by omega)]
        exact hb q x hx
      · rw [e, u2_n2 (by omega), fs 10 (by omega)]; exact g10
      · rw [e, u2_n2 (by omega), fs 12 (by omega), g12]
      · rw [gj k (by omega), fr k (by omega), gk k (by omega)]
      · rw [gj k (by omega), fr k (by omega)]
    have key : ∀ (m i : Nat) (f : Nat → Nat) (s : Nat) (pre : List (Nat × Nat × Nat)) (J : MI), i + m = 72 → pre.length = i → pre ++ blF A m f s = bL A → (∀ c, c < 16 → J 332 c = nI (f c) ∧ f c ≤ sN A 7 c) → s ≤ 30 * i → (∀ k, k < 326 ∨ k = 327 ∨ k = 328 ∨ k = 333 ∨ k = 334 ∨ k = 335 ∨ 336 ≤ k → J k = I1 k) → (∀ q, q ≠ 5 → J 326 q = I1 326 q) → J 326 5 = nI i → BR J pre → lp_X8_learnBuys_43 3 L1 Q (fun I28 => (∀ I29, I29 = u2 I28 326 11 1 → Q I29 L1)) (m + 1) (nI s) (nI i) J := by
      intro m
      induction m with
      | zero =>
        intro i f s pre J hi hp hl hf hsm fr fs h5 hb
        have hi : i = 72 := by omega
        subst hi
        unfold lp_X8_learnBuys_43
        refine ⟨fun _ I11 e11 => fin J I11 pre ?_ e11 fr fs (by rw [h5, hp]) hb, fun z => absurd (by decide) z⟩
        rw [← hl]
        exact (List.append_nil pre).symm
      | succ m ih =>
        intro i f s pre J hi hp hl hf hsm fr fs h5 hb
        have hPJ : PR 3 J A := hP1.fr (fun k a b => fr k (by omega))
        unfold lp_X8_learnBuys_43
        rw [show (72 : Int32) = nI 72 from rfl]
        refine ⟨fun z => absurd z (nI_ge (by omega) (by omega)), fun _ => ?_⟩
        refine c_nextBuy (f := f) hPJ hs w1 (fun c hc => ⟨(hf c hc).1, by have := (hf c hc).2; have := (uo_b hs hc).1; omega⟩) (fun c hc => ⟨fun _ => ?_, fun z => absurd z ?_⟩) (fun hc => ⟨fun z => absurd rfl z, fun _ I29 e29 => ?_⟩)
        · obtain ⟨hv, hg⟩ := nextB_ok hs hc
          have hc12 := vc_lt hs hv
          have hlt := gn_lt hs (c := c) (by omega) hg
          have hu := (uo_b hs (c := c) (by omega)).1
          obtain ⟨f1, f2⟩ := hf c (by omega)
          have vp : vp_in (nI c) 16 := vp_in_nI (by omega) (by omega)
          have vq : vp_in (nI i) 72 := vp_in_nI (by omega) (by omega)
          have hpr : J (3 + 1) (c % 4) = nI (sN A 2 (c % 4)) := hPJ 1 (c % 4) (ndp (by omega) (by omega) (by omega)) (by omega)
          have hp30 := (hs.2.1 (c % 4) (by omega)).1
          rw [ix_nI (n := c) (by omega), f1, nI_1, ix_nI (n := i) (by omega)]
          refine ⟨vp, vp, fun I16 e16 => s_part ⟨vp_in_nI (by omega) (by omega), vq, fun I20 e20 => ⟨vp, vq, fun I23 e23 => ⟨vq, fun I25 e25 I26 e26 => ?_⟩⟩⟩⟩
          have g16 : I16 (3 + 1) (c % 4) = nI (sN A 2 (c % 4)) := by rw [e16, u2_ne (by omega)]; exact hpr
          have g20 : I20 332 c = nI (f c + 1) := by rw [e20, u2_ne (by omega), e16, u2_s]
          rw [ix_nI (by omega), g16, nI_add] at e25
          rw [g20] at e23
          rw [ix_nI (by omega), g16, nI_add, nI_1]
          rw [nI_1] at e26
          have hbl : blF A (m + 1) f s = (c, f c + 1, s + sN A 2 (c % 4)) :: blF A m (bump f c) (s + sN A 2 (c % 4)) := by
            show (match nextB A f with | none => [] | some c => (c, f c + 1, s + sN A 2 (c % 4)) :: blF A m (bump f c) (s + sN A 2 (c % 4))) = _
            rw [hc]
          refine ih (i + 1) (bump f c) (s + sN A 2 (c % 4)) (pre ++ [(c, f c + 1, s + sN A 2 (c % 4))]) I26 (by omega) (by rw [List.length_append, List.length_singleton, hp]) ?_ (fun q hq => ?_) (by omega) (fun k hk => ?_) (fun q hq => ?_) (by rw [e26, u2_s]) ?_
          · rw [← hl, hbl, List.append_assoc]; rfl
          · unfold bump
            have gq : I26 332 q = I16 332 q := by rw [e26, u2_ne (by omega), e25, u2_ne (by omega), e23, u2_ne (by omega), e20, u2_ne (by omega)]
            rw [gq]
            by_cases h : q = c
            · rw [if_pos h, h, e16, u2_s]; exact ⟨rfl, by omega⟩
            · rw [if_neg h, e16, u2_n2 h]; exact hf q hq
          · rw [e26, u2_ne (by omega), e25, u2_ne (by omega), e23, u2_ne (by omega), e20, u2_ne (by omega), e16, u2_ne (by omega)]; exact fr k hk
          · rw [e26, u2_n2 hq, e25, u2_ne (by omega), e23, u2_ne (by omega), e20, u2_ne (by omega), e16, u2_ne (by omega)]; exact fs q hq
          · refine hb.app (fun q hq => ?_) ?_
            · rw [hp] at hq
              refine ⟨?_, ?_, ?_⟩
              · rw [e26, u2_ne (by omega), e25, u2_ne (by omega), e23, u2_ne (by omega), e20, u2_n2 (by omega), e16, u2_ne (by omega)]
              · rw [e26, u2_ne (by omega), e25, u2_ne (by omega), e23, u2_n2 (by omega), e20, u2_ne (by omega), e16, u2_ne (by omega)]
              · rw [e26, u2_ne (by omega), e25, u2_n2 (by omega), e23, u2_ne (by omega), e20, u2_ne (by omega), e16, u2_ne (by omega)]
            · rw [hp]
              refine ⟨?_, ?_, ?_⟩
              · rw [e26, u2_ne (by omega), e25, u2_ne (by omega), e23, u2_ne (by omega), e20, u2_s]
              · rw [e26, u2_ne (by omega), e25, u2_ne (by omega), e23, u2_s]
              · rw [e26, u2_ne (by omega), e25, u2_s]
        · have hc12 := vc_lt hs (nextB_ok hs hc).1
          exact nI_nm (by omega)
        · have hbl : blF A (m + 1) f s = [] := by
            show (match nextB A f with | none => [] | some c => (c, f c + 1, s + sN A 2 (c % 4)) :: blF A m (bump f c) (s + sN A 2 (c % 4))) = _
            rw [hc]
          refine fin J I29 pre ?_ e29 fr fs (by rw [h5, hp]) hb
          rw [← hl, hbl]
          exact (List.append_nil pre).symm
    have fr9 : ∀ k, k ≠ 326 → k ≠ 332 → I9 k = I1 k := fun k a b => by rw [e9, u2_ne a, b8 k b]
    exact key 72 0 (fun _ => 0) 0 [] I9 (by omega) rfl rfl (fun c hc => ⟨by rw [e9, u2_ne (by omega)]; exact a8 c hc, Nat.zero_le _⟩) (Nat.le_refl _) (fun k hk => fr9 k (by omega) (by omega)) (fun q hq => by rw [e9, u2_n2 hq, b8 326 (by omega)]) (by rw [e9, u2_s]) (fun q e h => by cases h)
  · have hw : WB I A := hk2.resolve_left (by rw [← g11]; exact z)
    refine hQ I1 L1 w1 ⟨by rw [g5]; exact hw.1, fun q e h => ?_⟩ g10 g12 (fun k hk => gk k (by omega)) (l1 333 (by omega) (by omega)) fl
    rw [gk 329 (by omega), gk 330 (by omega), gk 331 (by omega)]
    exact hw.2 q e h
