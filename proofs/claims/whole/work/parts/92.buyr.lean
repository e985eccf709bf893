/-! by odds: the reference's buys -/
def c3 (c : Nat) : Nat := 3 * (c / 4) + c % 4
theorem c3_of {b p : Nat} (hp : p < 4) : c3 (4 * b + p) = 3 * b + p := by unfold c3; omega
section RBUY
variable {I : MI} {A : St} {Y : List (Nat × Nat × Nat × Nat)} {f : Nat → Nat}
theorem r_gainOf {c : Nat} {Q : Int64 → Prop} (h : RR I A Y) (hs : SetOk A) (hc : vc A c) (hf : I 344 (c3 c) = nI (f c)) (hf8 : f c ≤ 8) (hQ : Q (lN (gn A f c))) : wp_X10_gainOf I (nI (c3 c)) Q := by
  have hc12 := vc_lt hs hc
  obtain ⟨hu, ho⟩ := uo_b hs (c := c) (by omega)
  have e : c3 c = 3 * (c / 4) + c % 4 := rfl
  have ec : 4 * (c / 4) + c % 4 = c := by omega
  unfold wp_X10_gainOf
  rw [ix_nI (by omega), hf]
  unfold gn at hQ
  rw [if_neg (by omega)] at hQ
  have d := lkV_d _ hu _ ho (f c) (by omega)
  have vp : vp_in (nI (c3 c)) 9 := vp_in_nI (by omega) (by omega)
  refine ⟨vp, ?_⟩
  rw [e]
  refine r_lack' h hs (by omega) hc12.2 (by omega) ⟨by rw [← e]; exact vp, ?_⟩
  rw [nI_1]
  refine r_lack' h hs (by omega) hc12.2 (by omega) ?_
  rw [ec, lN_sub (show lkc A c (f c + 1) ≤ lkc A c (f c) from d.1)]
  exact hQ
def nbR (st : Option Nat) (x : Int32) : Prop := match st with
  | none => x = -1
  | some q => x = nI (c3 q)
theorem r_nextBuy {Q : Int32 → Prop} (h : RR I A Y) (hs : SetOk A) (hf : ∀ c, vc A c → I 344 (c3 c) = nI (f c) ∧ f c ≤ 9) (hQ : ∀ c, nextB A f = some c → Q (nI (c3 c))) (hQ0 : nextB A f = none → Q (-1)) : wp_X10_nextBuy I Q := by
  have h1 := hs.1.1
  have h2 := hs.1.2.1
  have e0 : I 337 0 = nI (sN A 1 0) := h.n (j := 1) (i := 0) (by decide)
  have e1 : I 337 1 = nI (sN A 1 1) := h.n (j := 1) (i := 1) (by decide)
  have pr : ∀ p, p < 3 → I 337 (20 + p) = nI (sN A 2 p) ∧ sN A 2 p ≤ 30 := fun p hp => ⟨h.n (j := 2) (i := p) (by unfold rd; simp; omega), (hs.2.1 p (by omega)).1⟩
  have inner : ∀ (b : Nat) (kf : Int32 → Prop), b < sN A 1 1 → ∀ (m p : Nat) (st : Option Nat) (x : Int32), p + m = sN A 1 0 → okB A f st → nbR st x → (∀ x, nbR (nbP A f b m p st) x → kf x) → lp_X10_nextBuy_16 I (nI b) kf (m + 1) x (nI p) := by
    intro b kf hb m
    induction m with
    | zero =>
      intro p st x hp ho hn hk
      unfold lp_X10_nextBuy_16
      rw [show ix 0 = 0 from by decide, e0]
      exact ⟨v0, fun _ => hk x hn, fun z => absurd (nI_le (by omega) (by omega)) z⟩
    | succ m ih =>
      intro p st x hp ho hn hk
      have hv : vc A (4 * b + p) := ⟨by omega, by omega⟩
      obtain ⟨f1, f2⟩ := hf (4 * b + p) hv
      have ec := c3_of (b := b) (p := p) (by omega)
      obtain ⟨p1, p2⟩ := pr p (by omega)
      have hpm : (4 * b + p) % 4 = p := by omega
      have gb := gn_b (f := f) hs (c := 4 * b + p) (by omega)
      have ho' := nbS_ok ho hv
      have step : ∀ x, nbR (nbS A f st (4 * b + p)) x → lp_X10_nextBuy_16 I (nI b) kf (m + 1) x (nI (p + 1)) := fun x h => ih (p + 1) _ x (by omega) ho' h hk
      unfold lp_X10_nextBuy_16 jn_X10_nextBuy_103 jn_X10_nextBuy_106
      rw [show ix 0 = 0 from by decide, e0, nI_1]
      refine ⟨v0, fun z => absurd z (nI_ge (by omega) (by omega)), fun _ => r_cellOf ?_⟩
      rw [← ec, ix_nI (by rw [ec]; omega), f1]
      refine ⟨vp_in_nI (by rw [ec]; omega) (by omega), pk_eq (f (4 * b + p)) 9 (fun z => step x ?_) (fun z => ?_)⟩
      · rw [nbS_eq, if_pos (by unfold gn; rw [if_pos (by omega)])]; exact hn
      · refine r_gainOf (f := f) h hs hv f1 (by omega) ?_
        rw [show (0 : Int64) = lN 0 from rfl, cmp_lN (by omega) (by omega)]
        refine ⟨fun g0 => ?_, fun g0 => step x (by rw [nbS_eq, if_pos g0]; exact hn)⟩
        cases st with
        | none =>
          have hn : x = -1 := hn
          refine ⟨fun _ => step _ ?_, fun w => absurd hn w⟩
          rw [nbS_eq, if_neg g0]
          exact rfl
        | some q =>
          have hn : x = nI (c3 q) := hn
          obtain ⟨hq1, hq2⟩ := ho q rfl
          have hq12 := vc_lt hs hq1
          have gq := gn_b (f := f) hs (c := q) (by omega)
          have fq := hf q hq1
          have hlt := gn_lt hs (c := q) (by omega) hq2
          have hu := (uo_b hs (c := q) (by omega)).1
          have e3 : c3 q = 3 * (q / 4) + q % 4 := rfl
          obtain ⟨r1, r2⟩ := pr (q % 4) (by omega)
          have m1 : gn A f (4 * b + p) * sN A 2 (q % 4) ≤ 3439853568 * 30 := Nat.mul_le_mul gb r2
          have m2 : gn A f q * sN A 2 p ≤ 3439853568 * 30 := Nat.mul_le_mul gq p2
          refine ⟨fun w => absurd w (by rw [hn]; exact nI_nm (by omega)), fun _ => r_gainOf (f := f) h hs hv f1 (by omega) ?_⟩
          have em : x - x / 3 * 3 = nI (q % 4) := by
            rw [hn, show (3 : Int32) = nI 3 from rfl, pk_rem (by omega) (by omega) (by omega)]
            congr 1
            omega
          rw [em, hn, show (20 : Int32) + nI (q % 4) = nI (20 + q % 4) from nI_add 20 _, show (20 : Int32) + nI p = nI (20 + p) from nI_add 20 _, ix_nI (by omega), ix_nI (by omega), r1, p1]
          refine ⟨vp_in_nI (by omega) (by omega), r_gainOf (f := f) h hs hq1 fq.1 (by omega) ⟨vp_in_nI (by omega) (by omega), ?_⟩⟩
          rw [nI_l (by omega), nI_l (by omega), lN_mul, lN_mul, lg_cmp_le, pk_lLE (by omega) (by omega)]
          refine ⟨fun w => ?_, fun w => step _ ?_⟩
          · rw [← hn]
            refine step x ?_
            rw [nbS_eq, if_neg g0]
            simp only
            rw [hpm, if_neg (by omega)]
            exact hn
          · rw [nbS_eq, if_neg g0]
            simp only
            rw [hpm, if_pos (by omega)]
            exact rfl
  have outer : ∀ (m b : Nat) (st : Option Nat) (x : Int32), b + m = sN A 1 1 → okB A f st → nbR st x → nbB A f m b st = nextB A f → lp_X10_nextBuy_4 I Q (m + 1) x (nI b) := by
    intro m
    induction m with
    | zero =>
      intro b st x hb ho hn hk
      unfold lp_X10_nextBuy_4
      rw [show ix 1 = 1 from by decide, e1]
      refine ⟨v1, fun _ => ?_, fun z => absurd (nI_le (by omega) (by omega)) z⟩
      have hk : st = nextB A f := hk
      cases st with
      | none =>
        have hn : x = -1 := hn
        rw [hn]; exact hQ0 hk.symm
      | some q =>
        have hn : x = nI (c3 q) := hn
        rw [hn]; exact hQ q hk.symm
    | succ m ih =>
      intro b st x hb ho hn hk
      unfold lp_X10_nextBuy_4
      rw [show ix 1 = 1 from by decide, e1]
      refine ⟨v1, fun z => absurd z (nI_ge (by omega) (by omega)), fun _ => ⟨sN A 1 0 + 1, ?_⟩⟩
      rw [← nI_0]
      refine inner b _ (by omega) (sN A 1 0) 0 st x (by omega) ho hn (fun x' h' => ?_)
      rw [nI_1]
      exact ih (b + 1) _ x' (by omega) (nbP_ok (by omega) h1 _ _ _ (by omega) ho) h' hk
  unfold wp_X10_nextBuy
  refine ⟨sN A 1 1 + 1, ?_⟩
  rw [← nI_0]
  exact outer (sN A 1 1) 0 none (-1) (by omega) (fun _ e => by cases e) rfl rfl
end RBUY
/-- the reference's buys -/
def BM (I : MI) (l : List (Nat × Nat × Nat)) : Prop := ∀ (q : Nat) (e : Nat × Nat × Nat), l[q]? = some e → I 341 q = nI (c3 e.1) ∧ I 342 q = nI e.2.1 ∧ I 343 q = nI e.2.2
theorem BM.app {I I' : MI} {l : List (Nat × Nat × Nat)} {e : Nat × Nat × Nat} (h : BM I l) (hf : ∀ q, q < l.length → I' 341 q = I 341 q ∧ I' 342 q = I 342 q ∧ I' 343 q = I 343 q) (he : I' 341 l.length = nI (c3 e.1) ∧ I' 342 l.length = nI e.2.1 ∧ I' 343 l.length = nI e.2.2) : BM I' (l ++ [e]) := by
  intro q x hx
  by_cases hq : q < l.length
  · rw [List.getElem?_append_left hq] at hx
    obtain ⟨a, b, c⟩ := hf q hq
    rw [a, b, c]
    exact h q x hx
  · have hq2 := lt_of_get hx
    rw [List.length_append, List.length_singleton] at hq2
    have : q = l.length := by omega
    subst this
    rw [List.getElem?_append_right (Nat.le_refl _), Nat.sub_self] at hx
    cases hx
    exact he
/-- what laying buys changes in the reference -/
def RB (I I' : MI) : Prop := (∀ k, k ≠ 336 → (k < 341 ∨ 344 < k) → I' k = I k) ∧ ∀ s, s ≠ 18 → I' 336 s = I 336 s
theorem RB.rf {I : MI} : RB I I := ⟨fun _ _ _ => rfl, fun _ _ => rfl⟩
theorem RB.tr {I J K : MI} (h : RB I J) (h2 : RB J K) : RB I K := ⟨fun k a b => (h2.1 k a b).trans (h.1 k a b), fun s hs => (h2.2 s hs).trans (h.2 s hs)⟩
theorem RB.u {I I' : MI} {a i : Nat} {v : Int32} (e : I' = u2 I a i v) (h : 341 ≤ a) (h2 : a ≤ 344) : RB I I' := ⟨fun k _ b => by rw [e, u2_ne (by omega)], fun s _ => by rw [e, u2_ne (by omega)]⟩
theorem tot_bump {f : Nat → Nat} {c n : Nat} (hc : c < n) : tot (bump f c) n = tot f n + 1 := by
  have h := tot_upd (f := f) (g := bump f c) (i := c) (fun k hk => by unfold bump; rw [if_neg hk]) n hc
  have e : bump f c c = f c + 1 := by unfold bump; rw [if_pos rfl]
  rw [e] at h
  omega
theorem r_layBuys {I : MI} {A : St} {Y : List (Nat × Nat × Nat × Nat)} {Q : MI → Prop} (h : RR I A Y) (hs : SetOk A) (hQ : ∀ I', I' 336 18 = nI (bL A).length → BM I' (bL A) → RB I I' → Q I') : wp_X10_layBuys I Q := by
  have zero : ∀ (kf : MI → Prop) (m c : Nat) (J : MI), c + m = 9 → (∀ q, q < c → J 344 q = 0) → (∀ k, k ≠ 344 → J k = I k) → (∀ I', (∀ q, q < 9 → I' 344 q = 0) → (∀ k, k ≠ 344 → I' k = I k) → kf I') → lp_X10_layBuys_2 kf (m + 1) (nI c) J := by
    intro kf m
    induction m with
    | zero =>
      intro c J hc a b k
      unfold lp_X10_layBuys_2
      rw [show (9 : Int32) = nI 9 from rfl]
      exact ⟨fun _ => k J (fun q hq => a q (by omega)) b, fun z => absurd (nI_le (by omega) (by omega)) z⟩
    | succ m ih =>
      intro c J hc a b k
      unfold lp_X10_layBuys_2
      rw [show (9 : Int32) = nI 9 from rfl, ix_nI (by omega), nI_1]
      refine ⟨fun z => absurd z (nI_ge (by omega) (by omega)), fun _ => ⟨vp_in_nI (by omega) (by omega), fun J2 e => ?_⟩⟩
      refine ih (c + 1) J2 (by omega) (fun q hq => ?_) (fun q hq => by rw [e, u2_ne hq]; exact b q hq) k
      by_cases h : q = c
      · rw [h, e, u2_s]
      · rw [e, u2_n2 h]; exact a q (by omega)
  have h72 := units72 hs
  have none72 : ∀ (f : Nat → Nat), (∀ c, c < 16 → f c ≤ sN A 7 c) → 72 ≤ tot f 16 → nextB A f = none := by
    intro f hf ht
    cases hc : nextB A f with
    | none => rfl
    | some c =>
      obtain ⟨hv, hg⟩ := nextB_ok hs hc
      have hc12 := vc_lt hs hv
      have hlt := gn_lt hs (c := c) (by omega) hg
      have hb : tot (bump f c) 16 ≤ tot (sN A 7) 16 := tot_mono 16 (fun i hi => by
        unfold bump
        by_cases q : i = c
        · rw [if_pos q, q]; omega
        · rw [if_neg q]; exact hf i hi)
      rw [tot_bump (by omega)] at hb
      omega
  have key : ∀ (m i : Nat) (f : Nat → Nat) (s : Nat) (pre : List (Nat × Nat × Nat)) (J : MI) (x : Int32), i + m = 72 → pre.length = i → pre ++ blF A m f s = bL A → (∀ c, vc A c → J 344 (c3 c) = nI (f c)) → (∀ c, c < 16 → f c ≤ sN A 7 c) → tot f 16 = i → s ≤ 30 * i → RB I J → J 336 18 = nI i → BM J pre → nbR (nextB A f) x → lp_X10_layBuys_33 Q (m + 1) (nI s) x J := by
    intro m
    induction m with
    | zero =>
      intro i f s pre J x hi hp hl hf hfu ht hsm fr h18 hb hx
      have hn := none72 f hfu (by omega)
      rw [hn] at hx
      have hx : x = -1 := hx
      unfold lp_X10_layBuys_33
      have hpl : pre = bL A := by rw [← hl]; exact (List.append_nil pre).symm
      refine ⟨fun _ => hQ J (by rw [h18, ← hpl, hp]) (by rw [← hpl]; exact hb) fr, fun z => absurd hx z⟩
    | succ m ih =>
      intro i f s pre J x hi hp hl hf hfu ht hsm fr h18 hb hx
      unfold lp_X10_layBuys_33
      cases hc : nextB A f with
      | none =>
        rw [hc] at hx
        have hx : x = -1 := hx
        have hbl : blF A (m + 1) f s = [] := by
          show (match nextB A f with | none => [] | some c => (c, f c + 1, s + sN A 2 (c % 4)) :: blF A m (bump f c) (s + sN A 2 (c % 4))) = _
          rw [hc]
        have hpl : pre = bL A := by rw [← hl, hbl]; exact (List.append_nil pre).symm
        exact ⟨fun _ => hQ J (by rw [h18, ← hpl, hp]) (by rw [← hpl]; exact hb) fr, fun z => absurd hx z⟩
      | some c =>
        rw [hc] at hx
        have hx : x = nI (c3 c) := hx
        obtain ⟨hv, hg⟩ := nextB_ok hs hc
        have hc12 := vc_lt hs hv
        have hlt := gn_lt hs (c := c) (by omega) hg
        have hu := (uo_b hs (c := c) (by omega)).1
        have e3 : c3 c = 3 * (c / 4) + c % 4 := rfl
        have hbl : blF A (m + 1) f s = (c, f c + 1, s + sN A 2 (c % 4)) :: blF A m (bump f c) (s + sN A 2 (c % 4)) := by
          show (match nextB A f with | none => [] | some c => (c, f c + 1, s + sN A 2 (c % 4)) :: blF A m (bump f c) (s + sN A 2 (c % 4))) = _
          rw [hc]
        have vp : vp_in (nI (c3 c)) 9 := vp_in_nI (by omega) (by omega)
        have hR : RR J A Y := h.cg (fr.1 337 (by omega) (by omega))
        have hpr : J 337 (20 + c % 4) = nI (sN A 2 (c % 4)) := hR.n (j := 2) (i := c % 4) (by unfold rd; simp; omega)
        have hp30 := (hs.2.1 (c % 4) (by omega)).1
        have em : nI (c3 c) - nI (c3 c) / 3 * 3 = nI (c % 4) := by
          rw [show (3 : Int32) = nI 3 from rfl, pk_rem (by omega) (by omega) (by omega)]
          congr 1
          omega
        rw [hx, em, show (20 : Int32) + nI (c % 4) = nI (20 + c % 4) from nI_add 20 _, ix_nI (n := 20 + c % 4) (by omega), ix_nI (n := c3 c) (by omega), hf c hv, nI_1]
        refine ⟨fun z => absurd z (nI_nm (by omega)), fun _ => ⟨vp, vp, fun I11 e11 => ⟨vp_in_nI (by omega) (by omega), ?_⟩⟩⟩
        have g11 : I11 336 18 = nI i := by rw [e11, u2_ne (by omega)]; exact h18
        have q11 : I11 337 (20 + c % 4) = nI (sN A 2 (c % 4)) := by rw [e11, u2_ne (by omega)]; exact hpr
        have vq : vp_in (nI i) 90 := vp_in_nI (by omega) (by omega)
        rw [g11, q11, nI_add, ix_nI (by omega)]
        refine ⟨vq, fun I14 e14 => ⟨vp, ?_⟩⟩
        have g14 : I14 336 18 = nI i := by rw [e14, u2_ne (by omega)]; exact g11
        have q14 : I14 344 (c3 c) = nI (f c + 1) := by rw [e14, u2_ne (by omega), e11, u2_s]
        rw [g14, q14, ix_nI (by omega)]
        refine ⟨vq, fun I17 e17 => ?_⟩
        have g17 : I17 336 18 = nI i := by rw [e17, u2_ne (by omega)]; exact g14
        rw [g17, ix_nI (by omega)]
        refine ⟨vq, fun I19 e19 I20 e20 => ?_⟩
        have g19 : I19 336 18 = nI i := by rw [e19, u2_ne (by omega)]; exact g17
        rw [g19, nI_1] at e20
        have fr20 : RB I I20 := ((((fr.tr (RB.u e11 (by omega) (by omega))).tr (RB.u e14 (by omega) (by omega))).tr (RB.u e17 (by omega) (by omega))).tr (RB.u e19 (by omega) (by omega))).tr ⟨fun k a _ => by rw [e20, u2_ne a], fun s hs => by rw [e20, u2_n2 hs]⟩
        have hR20 : RR I20 A Y := h.cg (fr20.1 337 (by omega) (by omega))
        have f20 : ∀ q, vc A q → I20 344 (c3 q) = nI (bump f c q) := by
          intro q hq
          have hq12 := vc_lt hs hq
          have e3q : c3 q = 3 * (q / 4) + q % 4 := rfl
          rw [e20, u2_ne (by omega), e19, u2_ne (by omega), e17, u2_ne (by omega), e14, u2_ne (by omega)]
          unfold bump
          by_cases hqc : q = c
          · rw [if_pos hqc, hqc, e11, u2_s]
          · rw [if_neg hqc, e11, u2_n2 (by omega)]; exact hf q hq
        have hfu' : ∀ q, q < 16 → bump f c q ≤ sN A 7 q := fun q hq => by
          unfold bump
          by_cases hqc : q = c
          · rw [if_pos hqc, hqc]; omega
          · rw [if_neg hqc]; exact hfu q hq
        have go : ∀ y, nbR (nextB A (bump f c)) y → lp_X10_layBuys_33 Q (m + 1) (nI (s + sN A 2 (c % 4))) y I20 := by
          intro y hy
          refine ih (i + 1) (bump f c) (s + sN A 2 (c % 4)) (pre ++ [(c, f c + 1, s + sN A 2 (c % 4))]) I20 y (by omega) (by rw [List.length_append, List.length_singleton, hp]) ?_ f20 hfu' (by rw [tot_bump (by omega), ht]) (by omega) fr20 (by rw [e20, u2_s]) ?_ hy
          · rw [← hl, hbl, List.append_assoc]; rfl
          · refine hb.app (fun q hq => ?_) ?_
            · rw [hp] at hq
              refine ⟨?_, ?_, ?_⟩
              · rw [e20, u2_ne (by omega), e19, u2_ne (by omega), e17, u2_ne (by omega), e14, u2_n2 (by omega), e11, u2_ne (by omega)]
              · rw [e20, u2_ne (by omega), e19, u2_ne (by omega), e17, u2_n2 (by omega), e14, u2_ne (by omega), e11, u2_ne (by omega)]
              · rw [e20, u2_ne (by omega), e19, u2_n2 (by omega), e17, u2_ne (by omega), e14, u2_ne (by omega), e11, u2_ne (by omega)]
            · rw [hp]
              refine ⟨?_, ?_, ?_⟩
              · rw [e20, u2_ne (by omega), e19, u2_ne (by omega), e17, u2_ne (by omega), e14, u2_s]
              · rw [e20, u2_ne (by omega), e19, u2_ne (by omega), e17, u2_s]
              · rw [e20, u2_ne (by omega), e19, u2_s]
        refine r_nextBuy (f := bump f c) hR20 hs (fun q hq => ⟨f20 q hq, ?_⟩) (fun q hq => go _ (by rw [hq]; exact rfl)) (fun hq => go _ (by rw [hq]; exact rfl))
        have hq12 := vc_lt hs hq
        have := hfu' q (by omega)
        have := (uo_b hs (c := q) (by omega)).1
        omega
  unfold wp_X10_layBuys
  refine ⟨10, ?_⟩
  rw [← nI_0]
  refine zero _ 9 0 I (by omega) (fun q hq => absurd hq (by omega)) (fun _ _ => rfl) (fun I5 a5 b5 I6 e6 => ?_)
  have fr6 : RB I I6 := ⟨fun k a b => by rw [e6, u2_ne a, b5 k (by omega)], fun s hs => by rw [e6, u2_n2 hs, b5 336 (by omega)]⟩
  have hR6 : RR I6 A Y := h.cg (fr6.1 337 (by omega) (by omega))
  have f6 : ∀ q, vc A q → I6 344 (c3 q) = nI 0 := fun q hq => by
    have hq12 := vc_lt hs hq
    have e3q : c3 q = 3 * (q / 4) + q % 4 := rfl
    rw [e6, u2_ne (by omega), a5 _ (by omega)]
    rfl
  have go : ∀ y, nbR (nextB A (fun _ => 0)) y → ∃ N22, lp_X10_layBuys_33 Q N22 (nI 0) y I6 := fun y hy =>
    ⟨73, key 72 0 (fun _ => 0) 0 [] I6 y (by omega) rfl rfl f6 (fun _ _ => Nat.zero_le _) (tot_zero 16 (fun _ _ => rfl)) (Nat.le_refl _) fr6 (by rw [e6, u2_s]) (fun q e h => by cases h) hy⟩
  exact r_nextBuy (f := fun _ => 0) hR6 hs (fun q hq => ⟨f6 q hq, by omega⟩) (fun q hq => go _ (by rw [hq]; exact rfl)) (fun hq => go _ (by rw [hq]; exact rfl))
-- the buys' bounds
theorem bl_b {A : St} (hs : SetOk A) : ∀ (m : Nat) (f : Nat → Nat) (s : Nat), (∀ c, c < 16 → f c ≤ sN A 7 c) → (∀ e ∈ blF A m f s, vc A e.1 ∧ e.2.1 ≤ 8 ∧ e.2.2 ≤ s + 30 * m) ∧ ∀ c, c < 16 → f c + (blF A m f s).countP (fun e => e.1 == c) ≤ sN A 7 c
  | 0, f, s, hf => ⟨(fun e h => by cases h), fun c hc => hf c hc⟩
  | m + 1, f, s, hf => by
    unfold blF
    cases hc : nextB A f with
    | none => exact ⟨(fun e h => by cases h), fun c hc => hf c hc⟩
    | some c =>
      obtain ⟨hv, hg⟩ := nextB_ok hs hc
      have hc12 := vc_lt hs hv
      have hlt := gn_lt hs (c := c) (by omega) hg
      have hu := (uo_b hs (c := c) (by omega)).1
      have hp30 := (hs.2.1 (c % 4) (by omega)).1
      obtain ⟨a, b⟩ := bl_b hs m (bump f c) (s + sN A 2 (c % 4)) (fun q hq => by
        unfold bump
        by_cases hqc : q = c
        · rw [if_pos hqc, hqc]; omega
        · rw [if_neg hqc]; exact hf q hq)
      simp only
      refine ⟨fun e he => ?_, fun q hq => ?_⟩
      · rcases List.mem_cons.mp he with rfl | he
        · exact ⟨hv, by show f c + 1 ≤ 8; omega, by show s + sN A 2 (c % 4) ≤ s + 30 * (m + 1); omega⟩
        · obtain ⟨x, y, z⟩ := a e he
          exact ⟨x, y, by omega⟩
      · have hb := b q hq
        have hbq : bump f c q = if q = c then f c + 1 else f q := rfl
        rw [hbq] at hb
        rw [List.countP_cons]
        by_cases hqc : q = c
        · rw [if_pos hqc] at hb
          rw [if_pos (by simpa using hqc.symm)]
          have : f q = f c := by rw [hqc]
          omega
        · rw [if_neg hqc] at hb
          rw [if_neg (by simpa using fun g => hqc g.symm)]
          exact hb
theorem bL_b {A : St} (hs : SetOk A) : (∀ e ∈ bL A, vc A e.1 ∧ e.2.1 ≤ 8 ∧ e.2.2 ≤ 2160) ∧ (∀ c, c < 16 → (bL A).countP (fun e => e.1 == c) ≤ 8) ∧ (bL A).length ≤ 72 := by
  obtain ⟨a, b⟩ := bl_b hs 72 (fun _ => 0) 0 (fun _ _ => Nat.zero_le _)
  refine ⟨fun e he => ?_, fun c hc => ?_, blF_le 72 _ _⟩
  · obtain ⟨x, y, z⟩ := a e he
    exact ⟨x, y, by omega⟩
  · have := b c hc
    have hu := (uo_b hs hc).1
    show (blF A 72 (fun _ => 0) 0).countP (fun e => e.1 == c) ≤ 8
    omega
