/-! by odds: what is asked -/
def WI (I : MI) (L : ML) (A : St) : Prop := (I 326 10 = 0 ∨ WL L A) ∧ (I 326 11 = 0 ∨ WB I A) ∧ (I 326 12 = 0 ∨ WD I L A)
/-- how many buys a purse lets -/
def wnF (p : Nat) : List (Nat × Nat × Nat) → Nat
  | [] => 0
  | e :: l => if e.2.2 ≤ p then wnF p l + 1 else 0
theorem wnF_le (p : Nat) : ∀ (l : List (Nat × Nat × Nat)), wnF p l ≤ l.length
  | [] => Nat.le_refl _
  | e :: l => by
    unfold wnF
    by_cases h : e.2.2 ≤ p
    · rw [if_pos h, List.length_cons]; have := wnF_le p l; omega
    · rw [if_neg h]; exact Nat.zero_le _
theorem wnF_c {p : Nat} {e : Nat × Nat × Nat} {l : List (Nat × Nat × Nat)} : wnF p (e :: l) = if e.2.2 ≤ p then wnF p l + 1 else 0 := rfl
def cnF (l : List (Nat × Nat × Nat)) (n c : Nat) : Nat := (l.take n).countP (fun e => e.1 == c)
def bsF (l : List (Nat × Nat × Nat)) (n b : Nat) : Nat := (l.take n).countP (fun e => e.1 / 4 == b)
theorem take_s {α : Type} {l : List α} {i : Nat} (h : i < l.length) : l.take (i + 1) = l.take i ++ [l[i]] := List.take_succ_eq_append_getElem h
theorem cn_le {l : List (Nat × Nat × Nat)} {n c : Nat} : cnF l n c ≤ l.countP (fun e => e.1 == c) := by
  unfold cnF
  exact List.Sublist.countP_le (List.take_sublist n l)
section ODC
variable {I : MI} {L : ML} {A : St}
theorem c_within {p : Nat} {Q : Int32 → Prop} (hB : WB I A) (hs : SetOk A) (hp : p < 100) (hQ : Q (nI (wnF p (bL A)))) : wp_X8_buysWithin I (nI p) Q := by
  obtain ⟨b1, b2, b3⟩ := bL_b hs
  have key : ∀ (m i : Nat), i + m = (bL A).length → Q (nI (i + wnF p ((bL A).drop i))) → lp_X8_buysWithin_2 I (nI p) Q (m + 1) (nI i) := by
    intro m
    induction m with
    | zero =>
      intro i hi hq
      unfold lp_X8_buysWithin_2
      rw [hB.1]
      rw [List.drop_of_length_le (by omega)] at hq
      exact ⟨fun _ => hq, fun z => absurd (nI_le (by omega) (by omega)) z⟩
    | succ m ih =>
      intro i hi hq
      have hil : i < (bL A).length := by omega
      obtain ⟨-, -, g3⟩ := hB.2 i _ (List.getElem?_eq_getElem hil)
      have hb := (b1 _ (List.getElem_mem hil)).2.2
      rw [List.drop_eq_getElem_cons hil] at hq
      unfold wnF at hq
      unfold lp_X8_buysWithin_2
      rw [hB.1, ix_nI (by omega), g3, show (72 : Int32) = nI 72 from rfl, nI_1]
      refine ⟨fun z => absurd z (nI_ge (by omega) (by omega)), fun _ => ⟨fun z => absurd z (nI_ge (by omega) (by omega)), fun _ => ⟨vp_in_nI (by omega) (by omega), pk_lt p (bL A)[i].2.2 (fun z => ?_) (fun z => ?_)⟩⟩⟩
      · rw [if_neg (by omega)] at hq; exact hq
      · rw [if_pos z] at hq
        refine ih (i + 1) (by omega) ?_
        rw [show i + 1 + wnF p ((bL A).drop (i + 1)) = i + (wnF p ((bL A).drop (i + 1)) + 1) by omega]
        exact hq
  unfold wp_X8_buysWithin
  refine ⟨(bL A).length + 1, ?_⟩
  rw [← nI_0]
  exact key _ 0 (by omega) (by rw [Nat.zero_add]; exact hQ)
theorem c_ofBase {n b : Nat} {Q : Int32 → Prop} (hB : WB I A) (hs : SetOk A) (hn : n ≤ (bL A).length) (hb : b < 4) (hQ : Q (nI (bsF (bL A) n b))) : wp_X8_buysOfBase I (nI n) (nI b) Q := by
  obtain ⟨b1, b2, b3⟩ := bL_b hs
  have key : ∀ (m i : Nat), i + m = n → lp_X8_buysOfBase_5 I (nI n) (nI b) Q (m + 1) (nI (bsF (bL A) i b)) (nI i) := by
    intro m
    induction m with
    | zero =>
      intro i hi
      have hi : i = n := by omega
      subst hi
      unfold lp_X8_buysOfBase_5
      exact ⟨fun _ => hQ, fun z => absurd (nI_le (Nat.le_refl _) (by omega)) z⟩
    | succ m ih =>
      intro i hi
      have hil : i < (bL A).length := by omega
      obtain ⟨g1, -, -⟩ := hB.2 i _ (List.getElem?_eq_getElem hil)
      have hv := vc_lt hs (b1 _ (List.getElem_mem hil)).1
      have hst : bsF (bL A) (i + 1) b = bsF (bL A) i b + (if (bL A)[i].1 / 4 = b then 1 else 0) := by
        unfold bsF
        rw [take_s hil, List.countP_append]
        simp [List.countP_cons]
      unfold lp_X8_buysOfBase_5 jn_X8_buysOfBase_35
      rw [ix_nI (by omega), g1, show (72 : Int32) = nI 72 from rfl]
      refine ⟨fun z => absurd z (nI_ge (by omega) (by omega)), fun _ => ⟨fun z => absurd z (nI_ge (by omega) (by omega)), fun _ => ⟨vp_in_nI (by omega) (by omega), s_base (by omega) (pk_eq ((bL A)[i].1 / 4) b (fun z => ?_) (fun z => ?_)).symm⟩⟩⟩
      · rw [if_pos z] at hst
        rw [nI_1, nI_1, ← hst]
        exact ih (i + 1) (by omega)
      · rw [if_neg z] at hst
        have hst : bsF (bL A) (i + 1) b = bsF (bL A) i b := hst
        rw [nI_1, ← hst]
        exact ih (i + 1) (by omega)
  unfold wp_X8_buysOfBase
  refine ⟨n + 1, ?_⟩
  rw [← nI_0]
  exact key n 0 (by omega)
theorem c_countBuys {n : Nat} {Q : MI → Prop} (hB : WB I A) (hs : SetOk A) (hn : n ≤ (bL A).length) (hQ : ∀ I', (∀ c, c < 16 → I' 332 c = nI (cnF (bL A) n c)) → (∀ k, k ≠ 332 → I' k = I k) → Q I') : wp_X8_countBuys I (nI n) Q := by
  obtain ⟨b1, b2, b3⟩ := bL_b hs
  have zero : ∀ (kf : MI → Prop) (m c : Nat) (J : MI), c + m = 16 → (∀ q, q < c → J 332 q = 0) → (∀ k, k ≠ 332 → J k = I k) → (∀ I', (∀ q, q < 16 → I' 332 q = 0) → (∀ k, k ≠ 332 → I' k = I k) → kf I') → lp_X8_countBuys_2 kf (m + 1) (nI c) J := by
    intro kf m
    induction m with
    | zero =>
      intro c J hc a b k
      unfold lp_X8_countBuys_2
      rw [show (16 : Int32) = nI 16 from rfl]
      exact ⟨fun _ => k J (fun q hq => a q (by omega)) b, fun z => absurd (nI_le (by omega) (by omega)) z⟩
    | succ m ih =>
      intro c J hc a b k
      unfold lp_X8_countBuys_2
      rw [show (16 : Int32) = nI 16 from rfl, ix_nI (by omega), nI_1]
      refine ⟨fun z => absurd z (nI_ge (by omega) (by omega)), fun _ => ⟨vp_in_nI (by omega) (by omega), fun J2 e => ?_⟩⟩
      refine ih (c + 1) J2 (by omega) (fun q hq => ?_) (fun q hq => by rw [e, u2_ne hq]; exact b q hq) k
      by_cases h : q = c
      · rw [h, e, u2_s]
      · rw [e, u2_n2 h]; exact a q (by omega)
  have key : ∀ (m i : Nat) (J : MI), i + m = n → (∀ c, c < 16 → J 332 c = nI (cnF (bL A) i c)) → (∀ k, k ≠ 332 → J k = I k) → lp_X8_countBuys_23 (nI n) Q (m + 1) (nI i) J := by
    intro m
    induction m with
    | zero =>
      intro i J hi a b
      have hi : i = n := by omega
      subst hi
      unfold lp_X8_countBuys_23
      exact ⟨fun _ => hQ J a b, fun z => absurd (nI_le (Nat.le_refl _) (by omega)) z⟩
    | succ m ih =>
      intro i J hi a b
      have hil : i < (bL A).length := by omega
      obtain ⟨g1, -, -⟩ := hB.2 i _ (List.getElem?_eq_getElem hil)
      have hv := vc_lt hs (b1 _ (List.getElem_mem hil)).1
      have g1' : J 329 i = nI (bL A)[i].1 := by rw [b 329 (by omega)]; exact g1
      have hst : ∀ c, cnF (bL A) (i + 1) c = cnF (bL A) i c + (if (bL A)[i].1 = c then 1 else 0) := fun c => by
        unfold cnF
        rw [take_s hil, List.countP_append]
        simp [List.countP_cons]
      unfold lp_X8_countBuys_23
      rw [ix_nI (n := i) (by omega), g1', nI_m15, Nat.mod_eq_of_lt (by omega), ix_nI (by omega), a _ (by omega), nI_1, nI_1, show (72 : Int32) = nI 72 from rfl]
      have vp : vp_in (nI (bL A)[i].1) 16 := vp_in_nI (by omega) (by omega)
      refine ⟨fun z => absurd z (nI_ge (by omega) (by omega)), fun _ => ⟨fun z => absurd z (nI_ge (by omega) (by omega)), fun _ => ⟨vp_in_nI (by omega) (by omega), vp, vp, fun J2 e => ?_⟩⟩⟩
      refine ih (i + 1) J2 (by omega) (fun c hc => ?_) (fun k hk => by rw [e, u2_ne hk]; exact b k hk)
      rw [hst c]
      by_cases h : (bL A)[i].1 = c
      · rw [if_pos h, e, h, u2_s]
      · rw [if_neg h, Nat.add_zero, e, u2_n2 (fun g => h g.symm)]; exact a c hc
  unfold wp_X8_countBuys
  refine ⟨17, ?_⟩
  rw [← nI_0]
  refine zero _ 16 0 I (by omega) (fun q hq => absurd hq (by omega)) (fun _ _ => rfl) (fun I5 a5 b5 => ⟨n + 1, key n 0 I5 (by omega) (fun c hc => ?_) b5⟩)
  rw [a5 c hc]
  rfl
end ODC
section ODR
variable {I : MI} {A : St} {Y : List (Nat × Nat × Nat × Nat)}
theorem r_layBought {p : Nat} {Q : Int32 → MI → Prop} (h : RR I A Y) (hs : SetOk A) (hp : p < 100) (hQ : ∀ I', BM I' (bL A) → (∀ b q, b < 3 → q < 3 → I' 344 (3 * b + q) = nI (cnF (bL A) (wnF p (bL A)) (4 * b + q))) → RB I I' → Q (nI (wnF p (bL A))) I') : wp_X10_layBought I (nI p) Q := by
  obtain ⟨b1, b2, b3⟩ := bL_b hs
  unfold wp_X10_layBought
  refine r_layBuys h hs (fun I1 m1 k1 f1 => ⟨10, ?_⟩)
  have zero : ∀ (kf : MI → Prop) (m c : Nat) (J : MI), c + m = 9 → (∀ q, q < c → J 344 q = 0) → (∀ k, k ≠ 344 → J k = I1 k) → (∀ I', (∀ q, q < 9 → I' 344 q = 0) → (∀ k, k ≠ 344 → I' k = I1 k) → kf I') → lp_X10_layBought_6 kf (m + 1) (nI c) J := by
    intro kf m
    induction m with
    | zero =>
      intro c J hc a b k
      unfold lp_X10_layBought_6
      rw [show (9 : Int32) = nI 9 from rfl]
      exact ⟨fun _ => k J (fun q hq => a q (by omega)) b, fun z => absurd (nI_le (by omega) (by omega)) z⟩
    | succ m ih =>
      intro c J hc a b k
      unfold lp_X10_layBought_6
      rw [show (9 : Int32) = nI 9 from rfl, ix_nI (by omega), nI_1]
      refine ⟨fun z => absurd z (nI_ge (by omega) (by omega)), fun _ => ⟨vp_in_nI (by omega) (by omega), fun J2 e => ?_⟩⟩
      refine ih (c + 1) J2 (by omega) (fun q hq => ?_) (fun q hq => by rw [e, u2_ne hq]; exact b q hq) k
      by_cases h : q = c
      · rw [h, e, u2_s]
      · rw [e, u2_n2 h]; exact a q (by omega)
  have fin : ∀ (i : Nat) (J : MI), i = wnF p (bL A) → (∀ b q, b < 3 → q < 3 → J 344 (3 * b + q) = nI (cnF (bL A) i (4 * b + q))) → (∀ k, k ≠ 344 → J k = I1 k) → Q (nI i) J := by
    intro i J hi a b
    rw [hi] at a ⊢
    refine hQ J (fun q e he => ?_) a (f1.tr ⟨fun k hk hk2 => b k (by omega), fun s hs' => by rw [b 336 (by omega)]⟩)
    rw [b 341 (by omega), b 342 (by omega), b 343 (by omega)]
    exact k1 q e he
  have key : ∀ (m i : Nat) (J : MI), i + m = (bL A).length → i + wnF p ((bL A).drop i) = wnF p (bL A) → (∀ b q, b < 3 → q < 3 → J 344 (3 * b + q) = nI (cnF (bL A) i (4 * b + q))) → (∀ k, k ≠ 344 → J k = I1 k) → lp_X10_layBought_27 (nI p) Q (m + 1) (nI i) J := by
    intro m
    induction m with
    | zero =>
      intro i J hi hw a b
      have g18 : J 336 18 = nI (bL A).length := by rw [b 336 (by omega)]; exact m1
      rw [List.drop_of_length_le (by omega)] at hw
      have hw : i = wnF p (bL A) := by
        rw [← hw]; rfl
      unfold lp_X10_layBought_27
      rw [g18]
      exact ⟨fun _ => fin i J hw a b, fun z => absurd (nI_le (by omega) (by omega)) z⟩
    | succ m ih =>
      intro i J hi hw a b
      have hil : i < (bL A).length := by omega
      obtain ⟨g1, -, g3⟩ := k1 i _ (List.getElem?_eq_getElem hil)
      have hv := vc_lt hs (b1 _ (List.getElem_mem hil)).1
      have hb := (b1 _ (List.getElem_mem hil)).2.2
      have g18 : J 336 18 = nI (bL A).length := by rw [b 336 (by omega)]; exact m1
      have e3 : c3 (bL A)[i].1 = 3 * ((bL A)[i].1 / 4) + (bL A)[i].1 % 4 := rfl
      have hst : ∀ c, cnF (bL A) (i + 1) c = cnF (bL A) i c + (if (bL A)[i].1 = c then 1 else 0) := fun c => by
        unfold cnF
        rw [take_s hil, List.countP_append]
        simp [List.countP_cons]
      rw [List.drop_eq_getElem_cons hil, wnF_c] at hw
      have a1 := a ((bL A)[i].1 / 4) ((bL A)[i].1 % 4) (by omega) hv.2
      rw [← e3, show 4 * ((bL A)[i].1 / 4) + (bL A)[i].1 % 4 = (bL A)[i].1 by omega] at a1
      unfold lp_X10_layBought_27
      rw [g18, ix_nI (n := i) (by omega), b 343 (by omega), g3, b 341 (by omega), g1, ix_nI (n := c3 (bL A)[i].1) (by omega), a1, nI_1, nI_1]
      have vp : vp_in (nI (c3 (bL A)[i].1)) 9 := vp_in_nI (by omega) (by omega)
      refine ⟨fun z => absurd z (nI_ge (by omega) (by omega)), fun _ => ⟨vp_in_nI (by omega) (by omega), pk_lt p (bL A)[i].2.2 (fun z => fin i J ?_ a b) (fun z => ⟨vp_in_nI (by omega) (by omega), vp, vp, fun J2 e => ?_⟩)⟩⟩
      · rw [if_neg (by omega)] at hw; exact hw
      · rw [if_pos z] at hw
        refine ih (i + 1) J2 (by omega) (by omega) (fun b' q hb' hq => ?_) (fun k hk => by rw [e, u2_ne hk]; exact b k hk)
        rw [hst]
        by_cases hh : (bL A)[i].1 = 4 * b' + q
        · rw [if_pos hh, e, show 3 * b' + q = c3 (bL A)[i].1 by rw [hh, c3_of (by omega)], u2_s, hh]
        · rw [if_neg hh, Nat.add_zero, e, u2_n2 (by omega)]; exact a b' q hb' hq
  rw [← nI_0]
  refine zero _ 9 0 I1 (by omega) (fun q hq => absurd hq (by omega)) (fun _ _ => rfl) (fun I6 a6 b6 => ⟨(bL A).length + 1, key _ 0 I6 (by omega) (by rw [Nat.zero_add]; rfl) (fun b q hb hq => ?_) b6⟩)
  rw [a6 _ (by omega)]
  rfl
theorem bs_sum {n b : Nat} (hs : SetOk A) : cnF (bL A) n (4 * b) + cnF (bL A) n (4 * b + 1) + cnF (bL A) n (4 * b + 2) = bsF (bL A) n b := by
  have := split_base (fun e : Nat × Nat × Nat => e.1) b 3 (by omega) ((bL A).take n) (fun x hx => (vc_lt hs ((bL_b hs).1 x (List.mem_of_mem_take hx)).1).2)
  unfold bsF cnF
  rw [← this]
  simp only [tot]
  rw [Nat.zero_add]
  rfl
end ODR
/-- what is asked of the buys -/
def boV (A : St) (p w : Nat) : Int32 := if w = 0 then nI (wnF p (bL A)) else if w = 1 then (if wnF p (bL A) = 0 then 0 else nI ((bL A).getD (wnF p (bL A) - 1) (0, 0, 0)).2.2) else nI (bsF (bL A) (wnF p (bL A)) (w - 2))
