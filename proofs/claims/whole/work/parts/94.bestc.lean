/-! the class's table of the best -/
def WD (I : MI) (L : ML) (A : St) : Prop := ∀ k, k ≤ 9 → ∀ m, m < 100 → L 333 (100 * k + m) = lN (VV A (9 - k) m).1 ∧ I 334 (100 * k + m) = nI (VV A (9 - k) m).2.1 ∧ (k < 9 → I 335 (100 * k + m) = nI (VV A (9 - k) m).2.2)
section CBEST
variable {A : St}
theorem c_pick {I : MI} {L : ML} {k m : Nat} {Q : MI → ML → Prop} (hP : PR 3 I A) (hs : SetOk A) (hW : WL L A) (hk : k < 9) (hm : m < 100) (hrow : ∀ q, q < 100 → L 333 (100 * (k + 1) + q) = lN (VV A (9 - (k + 1)) q).1 ∧ I 334 (100 * (k + 1) + q) = nI (VV A (9 - (k + 1)) q).2.1) (hQ : ∀ I' L', L' 333 (100 * k + m) = lN (VV A (9 - k) m).1 → I' 334 (100 * k + m) = nI (VV A (9 - k) m).2.1 → I' 335 (100 * k + m) = nI (VV A (9 - k) m).2.2 → (∀ a i, ¬ (a = 333 ∧ i = 100 * k + m) → L' a i = L a i) → (∀ a i, ¬ ((a = 334 ∨ a = 335) ∧ i = 100 * k + m) → I' a i = I a i) → Q I' L') : wp_X8_pickSpares 3 I L (nI k) (nI m) Q := by
  have hj : 9 - k = (8 - k) + 1 := by omega
  have e8 : 8 - (8 - k) = k := by omega
  have hj2 : 9 - (k + 1) = 8 - k := by omega
  have hc16 : cK k < 16 := by unfold cK; omega
  obtain ⟨hu9, ho13⟩ := uo_b hs hc16
  have hp30 := (hs.2.1 (k % 3) (by omega)).1
  have g4 : I (3 + 1) (k % 3) = nI (sN A 2 (k % 3)) := hP 1 (k % 3) (ndp (by omega) (by omega) (by omega)) (by omega)
  have hsc : VV A (9 - k) m = scan A (VV A (8 - k)) k m (sN A 7 (cK k)) 10 0 (0, 0, 0) := by
    rw [hj]
    show scan A (VV A (8 - k)) (8 - (8 - k)) m (sN A 7 (cK (8 - (8 - k)))) 10 0 (0, 0, 0) = _
    rw [e8]
  rw [hj2] at hrow
  unfold wp_X8_pickSpares
  rw [show (3 : Int32) = nI 3 from rfl, pk_rem (by omega) (by omega) (by omega), pk_div (by omega) (by omega) (by omega)]
  refine s_placeOf ?_
  rw [show 4 * (k / 3) + k % 3 = cK k from rfl, nI_m15, Nat.mod_eq_of_lt hc16, ix_nI (n := k % 3) (by omega), g4, show nI k * 100 + nI m = nI (100 * k + m) by rw [show (100 : Int32) = nI 100 from rfl, pk_mul, nI_add, Nat.mul_comm]]
  refine ⟨vp_in_nI (by omega) (by omega), 11, ?_⟩
  have key : ∀ (f s : Nat) (cur : Nat × Nat × Nat) (J : MI) (M : ML), s + f = 10 → (∀ a i, ¬ (a = 333 ∧ i = 100 * k + m) → M a i = L a i) → (∀ a i, ¬ ((a = 334 ∨ a = 335) ∧ i = 100 * k + m) → J a i = I a i) → (s ≠ 0 → M 333 (100 * k + m) = lN cur.1 ∧ J 334 (100 * k + m) = nI cur.2.1 ∧ J 335 (100 * k + m) = nI cur.2.2 ∧ cur.1 ≤ 9 * 3439853568 ∧ cur.2.1 ≤ 99) → scan A (VV A (8 - k)) k m (sN A 7 (cK k)) f s cur = VV A (9 - k) m → lp_X8_pickSpares_38 3 (nI k) (nI m) (nI (cK k)) (nI (sN A 2 (k % 3))) (nI (100 * k + m)) Q (f + 1) (nI s) J M := by
    intro f
    induction f with
    | zero =>
      intro s cur J M hsf fL fI hcur hsc
      have e7 : J (3 + 6) (cK k) = nI (sN A 7 (cK k)) := by rw [fI (3 + 6) (cK k) (by omega)]; exact hP 6 (cK k) (nd7 hc16) (by omega)
      have hcur := hcur (by omega)
      have hsc : cur = VV A (9 - k) m := hsc
      rw [hsc] at hcur
      unfold lp_X8_pickSpares_38
      rw [ix_nI (by omega), e7]
      exact ⟨vp_in_nI hc16 (by omega), fun _ => hQ J M hcur.1 hcur.2.1 hcur.2.2.1 fL fI, fun z => absurd (nI_lt (by omega) (by omega)) z⟩
    | succ f ih =>
      intro s cur J M hsf fL fI hcur hsc
      have e7 : J (3 + 6) (cK k) = nI (sN A 7 (cK k)) := by rw [fI (3 + 6) (cK k) (by omega)]; exact hP 6 (cK k) (nd7 hc16) (by omega)
      have stop : ¬ (s ≤ sN A 7 (cK k) ∧ s * sN A 2 (k % 3) ≤ m) → Q J M := by
        intro hn
        have h0 : s ≠ 0 := fun g => hn ⟨by omega, by rw [g, Nat.zero_mul]; exact Nat.zero_le _⟩
        have hcur := hcur h0
        rw [scan_s, if_neg hn] at hsc
        rw [hsc] at hcur
        exact hQ J M hcur.1 hcur.2.1 hcur.2.2.1 fL fI
      have hsp : s * sN A 2 (k % 3) ≤ 9 * 30 := Nat.mul_le_mul (by omega) hp30
      unfold lp_X8_pickSpares_38
      rw [ix_nI (n := cK k) (by omega), e7, pk_mul]
      refine ⟨vp_in_nI hc16 (by omega), pk_lt (sN A 7 (cK k)) s (fun z => stop (by omega)) (fun z => pk_lt m (s * sN A 2 (k % 3)) (fun w => stop (by omega)) (fun w => ?_))⟩
      have ei : ((nI k + 1) * 100 + nI m) - nI (s * sN A 2 (k % 3)) = nI (100 * (k + 1) + (m - s * sN A 2 (k % 3))) := by
        rw [nI_1, show (100 : Int32) = nI 100 from rfl, pk_mul, nI_add, pk_sub (by omega)]
        congr 1
        omega
      rw [ei, ix_nI (n := 100 * (k + 1) + (m - s * sN A 2 (k % 3))) (by omega), ix_nI (n := 100 * k + m) (by omega)]
      obtain ⟨r1, r2⟩ := hrow (m - s * sN A 2 (k % 3)) (by omega)
      have m1 : M 333 (100 * (k + 1) + (m - s * sN A 2 (k % 3))) = lN (VV A (8 - k) (m - s * sN A 2 (k % 3))).1 := by rw [fL _ _ (by omega)]; exact r1
      have m2 : J 334 (100 * (k + 1) + (m - s * sN A 2 (k % 3))) = nI (VV A (8 - k) (m - s * sN A 2 (k % 3))).2.1 := by rw [fI _ _ (by omega)]; exact r2
      have mlk : M 328 (10 * cK k + s) = lN (lkc A (cK k) s) := by rw [fL _ _ (by omega)]; exact hW.2 (cK k) hc16 s (by omega)
      have vr : vp_in (nI (100 * (k + 1) + (m - s * sN A 2 (k % 3)))) 1000 := vp_in_nI (by omega) (by omega)
      have vh : vp_in (nI (100 * k + m)) 1000 := vp_in_nI (by omega) (by omega)
      have vh9 : vp_in (nI (100 * k + m)) 900 := vp_in_nI (by omega) (by omega)
      refine c_lackOf hc16 (by omega) ?_
      rw [mlk, m1, m2, lN_add, nI_add]
      have hcb1 : (cand A (VV A (8 - k)) k m s).1 ≤ 9 * 3439853568 := by
        have a := VV_lack hs (8 - k) (m - s * sN A 2 (k % 3)) (by omega)
        have b := (lkV_d _ hu9 _ ho13 s (by omega)).2.1
        have c : (8 - k) * 3439853568 ≤ 8 * 3439853568 := Nat.mul_le_mul_right _ (by omega)
        unfold cand lkc
        simp only
        omega
      have hcb2 : (cand A (VV A (8 - k)) k m s).2 ≤ 99 := by
        have a := VV_cost hs (8 - k) (m - s * sN A 2 (k % 3)) (by omega)
        unfold cand
        simp only
        omega
      rw [scan_s, if_pos ⟨z, w⟩] at hsc
      have c1 : lkc A (cK k) s + (VV A (8 - k) (m - s * sN A 2 (k % 3))).1 = (cand A (VV A (8 - k)) k m s).1 := rfl
      have c2 : s * sN A 2 (k % 3) + (VV A (8 - k) (m - s * sN A 2 (k % 3))).2.1 = (cand A (VV A (8 - k)) k m s).2 := rfl
      rw [c1, c2]
      have take : (s = 0 ∨ (cand A (VV A (8 - k)) k m s).1 < cur.1 ∨ ((cand A (VV A (8 - k)) k m s).1 = cur.1 ∧ (cand A (VV A (8 - k)) k m s).2 < cur.2.1)) → jn_X8_pickSpares_151 J M (nI (100 * k + m)) (nI s) (lN (cand A (VV A (8 - k)) k m s).1) (nI (cand A (VV A (8 - k)) k m s).2) (fun x19 I20 L21 => (lp_X8_pickSpares_38 3 (nI k) (nI m) (nI (cK k)) (nI (sN A 2 (k % 3))) (nI (100 * k + m)) Q (f + 1) x19 I20 L21)) := by
        intro hc
        unfold jn_X8_pickSpares_151 jn_X8_pickSpares_178
        rw [ix_nI (by omega), nI_1]
        refine ⟨vh, fun L11 e11 => ⟨vh, fun I13 e13 => ⟨vh9, fun I15 e15 => ?_⟩⟩⟩
        have hu : dpU (cand A (VV A (8 - k)) k m s) s cur = ((cand A (VV A (8 - k)) k m s).1, (cand A (VV A (8 - k)) k m s).2, s) := if_pos hc
        rw [hu] at hsc
        refine ih (s + 1) _ I15 L11 (by omega) (fun a i hai => by rw [e11, u2_at, if_neg hai]; exact fL a i hai) (fun a i hai => ?_) (fun _ => ⟨by rw [e11, u2_s], by rw [e15, u2_ne (by omega), e13, u2_s], by rw [e15, u2_s], hcb1, hcb2⟩) hsc
        rw [e15, u2_at, if_neg (by omega), e13, u2_at, if_neg (by omega)]
        exact fI a i hai
      have leave : ¬ (s = 0 ∨ (cand A (VV A (8 - k)) k m s).1 < cur.1 ∨ ((cand A (VV A (8 - k)) k m s).1 = cur.1 ∧ (cand A (VV A (8 - k)) k m s).2 < cur.2.1)) → jn_X8_pickSpares_178 J M (nI s) (fun x29 I30 L31 => (lp_X8_pickSpares_38 3 (nI k) (nI m) (nI (cK k)) (nI (sN A 2 (k % 3))) (nI (100 * k + m)) Q (f + 1) x29 I30 L31)) := by
        intro hc
        unfold jn_X8_pickSpares_178
        rw [nI_1]
        have hu : dpU (cand A (VV A (8 - k)) k m s) s cur = cur := if_neg hc
        rw [hu] at hsc
        exact ih (s + 1) cur J M (by omega) fL fI (fun _ => hcur (fun g => hc (Or.inl g))) hsc
      refine ⟨vr, vr, pk_eq s 0 (fun g => take (Or.inl g)) (fun g => ⟨vh, ?_⟩)⟩
      obtain ⟨q1, q2, q3, q4, q5⟩ := hcur g
      rw [q1, q2, lg_cmp_lt, pk_lLT (by omega) (by omega), lg_cmp_eq, pk_lEQ (by omega) (by omega)]
      refine ⟨fun u => take (Or.inr (Or.inl u)), fun u => ⟨vh, fun y => leave ?_, fun y => ⟨vh, pk_le cur.2.1 (cand A (VV A (8 - k)) k m s).2 (fun x => leave ?_) (fun x => take (Or.inr (Or.inr ⟨y, x⟩)))⟩⟩⟩
      · intro hh
        rcases hh with hh | hh | hh
        · exact g hh
        · exact u hh
        · exact y hh.1
      · intro hh
        rcases hh with hh | hh | hh
        · exact g hh
        · exact u hh
        · omega
  rw [← nI_0]
  exact key 10 0 (0, 0, 0) I L (by omega) (fun _ _ _ => rfl) (fun _ _ _ => rfl) (fun g => absurd rfl g) hsc.symm
theorem c_learnBest {I : MI} {L : ML} {Q : MI → ML → Prop} (hP : PR 3 I A) (hs : SetOk A) (hk : I 326 10 = 0 ∨ WL L A) (hk3 : I 326 12 = 0 ∨ WD I L A) (hQ : ∀ I' L', WL L' A → WD I' L' A → ¬ I' 326 10 = 0 → (∀ s, s ≠ 10 → s ≠ 12 → I' 326 s = I 326 s) → (∀ k, k = 329 ∨ k = 330 ∨ k = 331 → I' k = I k) → FW I L I' L' → Q I' L') : wp_X8_learnBest 3 I L Q := by
  unfold wp_X8_learnBest
  refine c_learnLack hP hs hk (fun I1 L1 w1 i1 l1 => ?_)
  have g12 : I1 326 12 = I 326 12 := i1.elim (fun e => by rw [e, u2_n2 (by omega)]) (fun e => by rw [e.1])
  have gs : ∀ s, s ≠ 10 → I1 326 s = I 326 s := fun s hs => i1.elim (fun e => by rw [e, u2_n2 hs]) (fun e => by rw [e.1])
  have g10 : ¬ I1 326 10 = 0 := by
    rcases i1 with e | e
    · rw [e, u2_s]; decide
    · rw [e.1]; exact e.2
  have gk : ∀ k, k ≠ 326 → I1 k = I k := fun k hk => i1.elim (fun e => by rw [e, u2_ne hk]) (fun e => by rw [e.1])
  have hP1 : PR 3 I1 A := hP.fr (fun k a b => gk k (by omega))
  have fl : FW I L I1 L1 := ⟨fun k hk => gk k (by omega), fun k hk => l1 k (by omega) (by omega)⟩
  refine ⟨fun z => ⟨101, ?_⟩, fun z => ?_⟩
  · -- rows from k on are right; nothing but 333, 334, 335 has changed
    have rowsOk : ∀ (J : MI) (M : ML) (k : Nat), Prop := fun J M k => ∀ q, k ≤ q → q ≤ 9 → ∀ m, m < 100 → M 333 (100 * q + m) = lN (VV A (9 - q) m).1 ∧ J 334 (100 * q + m) = nI (VV A (9 - q) m).2.1 ∧ (q < 9 → J 335 (100 * q + m) = nI (VV A (9 - q) m).2.2)
    have cells : ∀ (d k : Nat) (J : MI) (M : ML), k + 1 = d → k < 9 → (∀ q, k < q → q ≤ 9 → ∀ m, m < 100 → M 333 (100 * q + m) = lN (VV A (9 - q) m).1 ∧ J 334 (100 * q + m) = nI (VV A (9 - q) m).2.1 ∧ (q < 9 → J 335 (100 * q + m) = nI (VV A (9 - q) m).2.2)) → (∀ a, a ≠ 333 → M a = L1 a) → (∀ a, a ≠ 334 → a ≠ 335 → J a = I1 a) → lp_X8_learnBest_52 3 Q (d + 1) (nI k) J M := by
      intro d
      induction d with
      | zero => intro k J M hd; omega
      | succ d ih =>
        intro k J M hd hk hr fL fI
        unfold lp_X8_learnBest_52
        refine ⟨fun z => absurd z (nI_pos (by omega)), fun _ => ⟨101, ?_⟩⟩
        have purses : ∀ (e m : Nat) (J' : MI) (M' : ML), m + e = 100 → (∀ q, k < q → q ≤ 9 → ∀ m, m < 100 → M' 333 (100 * q + m) = lN (VV A (9 - q) m).1 ∧ J' 334 (100 * q + m) = nI (VV A (9 - q) m).2.1 ∧ (q < 9 → J' 335 (100 * q + m) = nI (VV A (9 - q) m).2.2)) → (∀ w, w < m → M' 333 (100 * k + w) = lN (VV A (9 - k) w).1 ∧ J' 334 (100 * k + w) = nI (VV A (9 - k) w).2.1 ∧ J' 335 (100 * k + w) = nI (VV A (9 - k) w).2.2) → (∀ a, a ≠ 333 → M' a = L1 a) → (∀ a, a ≠ 334 → a ≠ 335 → J' a = I1 a) → lp_X8_learnBest_58 3 (nI k) (fun I18 L19 => (lp_X8_learnBest_52 3 Q (d + 1) (nI k + (-1)) I18 L19)) (e + 1) (nI m) J' M' := by
          intro e
          induction e with
          | zero =>
            intro m J' M' hm hr' hw fL' fI'
            unfold lp_X8_learnBest_58
            rw [show (100 : Int32) = nI 100 from rfl]
            refine ⟨fun _ => ?_, fun z => absurd (nI_le (by omega) (by omega)) z⟩
            have hr2 : ∀ q, k ≤ q → q ≤ 9 → ∀ m, m < 100 → M' 333 (100 * q + m) = lN (VV A (9 - q) m).1 ∧ J' 334 (100 * q + m) = nI (VV A (9 - q) m).2.1 ∧ (q < 9 → J' 335 (100 * q + m) = nI (VV A (9 - q) m).2.2) := by
              intro q hq hq9 w hw'
              by_cases hqk : q = k
              · rw [hqk]
                obtain ⟨a, b, c⟩ := hw w (by omega)
                exact ⟨a, b, fun _ => c⟩
              · exact hr' q (by omega) hq9 w hw'
            cases k with
            | zero =>
              have hd0 : d = 0 := by omega
              subst hd0
              unfold lp_X8_learnBest_52
              refine ⟨fun _ I13 e13 => ?_, fun z => absurd (by decide) z⟩
              have g13 : ∀ a, a ≠ 326 → I13 a = J' a := fun a ha => by rw [e13, u2_ne ha]
              refine hQ I13 M' ⟨fun c hc x hx => by rw [fL' 327 (by omega)]; exact w1.1 c hc x hx, fun c hc s hs' => by rw [fL' 328 (by omega)]; exact w1.2 c hc s hs'⟩ (fun q hq m hm' => ?_) ?_ (fun s a b => ?_) (fun k hk => ?_) (fl.tr ⟨fun a ha => ?_, fun a ha => fL' a (by omega)⟩)
              · rw [g13 334 (by omega), g13 335 (by omega)]
                exact hr2 q (Nat.zero_le _) hq m hm'
              · rw [e13, u2_n2 (by omega), fI' 326 (by omega) (by omega)]; exact g10
              · rw [e13, u2_n2 b, fI' 326 (by omega) (by omega), gs s a]
              · rw [g13 k (by omega), fI' k (by omega) (by omega), gk k (by omega)]
              · rw [g13 a (by omega), fI' a (by omega) (by omega)]
            | succ k =>
              rw [pk_m1]
              exact ih k J' M' (by omega) (by omega) (fun q a b m c => hr2 q (by omega) b m c) fL' fI'
          | succ e ih2 =>
            intro m J' M' hm hr' hw fL' fI'
            unfold lp_X8_learnBest_58
            rw [show (100 : Int32) = nI 100 from rfl]
            refine ⟨fun z => absurd z (nI_ge (by omega) (by omega)), fun _ => ?_⟩
            refine c_pick (hP1.fr (fun a b c => fI' a (by omega) (by omega))) hs ⟨fun c hc x hx => by rw [fL' 327 (by omega)]; exact w1.1 c hc x hx, fun c hc s hs' => by rw [fL' 328 (by omega)]; exact w1.2 c hc s hs'⟩ hk (by omega) (fun q hq => by obtain ⟨a, b, _⟩ := hr' (k + 1) (by omega) (by omega) q hq; exact ⟨a, b⟩) (fun I15 L16 p1 p2 p3 p4 p5 => ?_)
            rw [nI_1]
            refine ih2 (m + 1) I15 L16 (by omega) (fun q a b w c => ?_) (fun w hw' => ?_) (fun a ha => by funext i; rw [p4 a i (by omega)]; rw [fL' a ha]) (fun a ha hb => by funext i; rw [p5 a i (by omega), fI' a ha hb])
            · have h := hr' q a b w c
              rw [p4 _ _ (by omega), p5 _ _ (by omega), p5 _ _ (by omega)]
              exact h
            · by_cases hwm : w = m
              · rw [hwm]; exact ⟨p1, p2, p3⟩
              · have h := hw w (by omega)
                rw [p4 _ _ (by omega), p5 _ _ (by omega), p5 _ _ (by omega)]
                exact h
        rw [← nI_0]
        exact purses 100 0 J M (by omega) hr (fun w hw => absurd hw (by omega)) fL fI
    have last : ∀ (e m : Nat) (J : MI) (M : ML), m + e = 100 → (∀ w, w < m → M 333 (900 + w) = 0 ∧ J 334 (900 + w) = 0) → (∀ a, a ≠ 333 → M a = L1 a) → (∀ a, a ≠ 334 → J a = I1 a) → lp_X8_learnBest_15 (fun I10 L11 => (∃ N20, lp_X8_learnBest_52 3 Q N20 8 I10 L11)) (e + 1) (nI m) J M := by
      intro e
      induction e with
      | zero =>
        intro m J M hm hw fL fI
        unfold lp_X8_learnBest_15
        rw [show (100 : Int32) = nI 100 from rfl]
        refine ⟨fun _ => ⟨10, ?_⟩, fun z => absurd (nI_le (by omega) (by omega)) z⟩
        refine cells 9 8 J M (by omega) (by omega) (fun q a b w c => ?_) fL (fun a ha _ => fI a ha)
        have hq : q = 9 := by omega
        subst hq
        obtain ⟨x, y⟩ := hw w (by omega)
        exact ⟨x, y, fun g => absurd g (by omega)⟩
      | succ e ih =>
        intro m J M hm hw fL fI
        unfold lp_X8_learnBest_15
        rw [show (100 : Int32) = nI 100 from rfl, show (900 : Int32) + nI m = nI (900 + m) from nI_add 900 m, ix_nI (by omega), nI_1]
        refine ⟨fun z => absurd z (nI_ge (by omega) (by omega)), fun _ => ⟨vp_in_nI (by omega) (by omega), fun L6 e6 => ⟨vp_in_nI (by omega) (by omega), fun I8 e8 => ?_⟩⟩⟩
        refine ih (m + 1) I8 L6 (by omega) (fun w hw' => ?_) (fun a ha => by rw [e6, u2_ne ha]; exact fL a ha) (fun a ha => by rw [e8, u2_ne ha]; exact fI a ha)
        by_cases hwm : w = m
        · rw [hwm, e6, u2_s, e8, u2_s]; exact ⟨rfl, rfl⟩
        · rw [e6, u2_n2 (by omega), e8, u2_n2 (by omega)]; exact hw w (by omega)
    rw [← nI_0]
    exact last 100 0 I1 L1 (by omega) (fun w hw => absurd hw (by omega)) (fun _ _ => rfl) (fun _ _ => rfl)
  · have hw : WD I L A := hk3.resolve_left (by rw [← g12]; exact z)
    refine hQ I1 L1 w1 (fun q hq m hm => ?_) g10 (fun s a b => gs s a) (fun k hk => gk k (by omega)) fl
    rw [l1 333 (by omega) (by omega), gk 334 (by omega), gk 335 (by omega)]
    exact hw q hq m hm
theorem c_bestSpares {I : MI} {L : ML} {p n : Nat} {Q : Int32 → Prop} (hP : PR 3 I A) (hs : SetOk A) (hD : WD I L A) (hp : p < 100) (hn : n < 9) (hQ : Q (nI (VV A (9 - n) (lf A p n)).2.2)) : wp_X8_bestSpares 3 I (nI p) (nI n) Q := by
  have pick : ∀ (k w : Nat) (Q' : Int32 → Prop), k < 9 → w < 100 → Q' (nI (VV A (9 - k) w).2.2) → wp_X8_pickOf I (nI k) (nI w) Q' := by
    intro k w Q' hk hw hq
    have e := (hD k (by omega) w hw).2.2 hk
    unfold wp_X8_pickOf
    rw [show nI k * 100 + nI w = nI (100 * k + w) by rw [show (100 : Int32) = nI 100 from rfl, pk_mul, nI_add, Nat.mul_comm], ix_nI (by omega), e, show (100 : Int32) = nI 100 from rfl, show (900 : Int32) = nI 900 from rfl]
    exact ⟨fun z => absurd z (nI_pos (by omega)), fun _ => ⟨fun z => absurd z (nI_ge hw (by omega)), fun _ => ⟨fun z => absurd z (nI_pos (by omega)), fun _ => ⟨fun z => absurd z (nI_ge (by omega) (by omega)), fun _ => ⟨vp_in_nI (by omega) (by omega), hq⟩⟩⟩⟩⟩
  have key : ∀ (m k : Nat), k + m = n → lp_X8_bestSpares_6 3 I (nI n) (fun x6 => (jn_X8_bestSpares_48 I (nI n) x6 Q)) (m + 1) (nI (lf A p k)) (nI k) := by
    intro m
    induction m with
    | zero =>
      intro k hk
      have hk : k = n := by omega
      subst hk
      have := lf_le (A := A) (p := p) k
      unfold lp_X8_bestSpares_6 jn_X8_bestSpares_48
      exact ⟨fun _ => pick k _ _ hn (by omega) hQ, fun z => absurd (nI_le (Nat.le_refl _) (by omega)) z⟩
    | succ m ih =>
      intro k hk
      have hle := lf_le (A := A) (p := p) k
      have hp30 := (hs.2.1 (k % 3) (by omega)).1
      have g4 : I (3 + 1) (k % 3) = nI (sN A 2 (k % 3)) := hP 1 (k % 3) (ndp (by omega) (by omega) (by omega)) (by omega)
      have hsp := (VV_spec hs (j := 8 - k) (m := lf A p k) (by omega)).2.2.1
      rw [show 8 - k + 1 = 9 - k by omega, show 8 - (8 - k) = k by omega] at hsp
      unfold lp_X8_bestSpares_6
      rw [show (9 : Int32) = nI 9 from rfl]
      refine ⟨fun z => absurd z (nI_ge (by omega) (by omega)), fun _ => ⟨fun z => absurd z (nI_ge (by omega) (by omega)), fun _ => pick k _ _ (by omega) (by omega) ?_⟩⟩
      rw [show (3 : Int32) = nI 3 from rfl, pk_rem (by omega) (by omega) (by omega), ix_nI (by omega), g4, pk_mul, pk_sub hsp, nI_1]
      exact ⟨vp_in_nI (by omega) (by omega), ih (k + 1) (by omega)⟩
  unfold wp_X8_bestSpares
  refine ⟨n + 1, ?_⟩
  rw [← nI_0]
  exact key n 0 (by omega)
end CBEST
