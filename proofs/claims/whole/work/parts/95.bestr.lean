/-! the reference's table of the best -/
def MD (I : MI) (L : ML) (A : St) (lo : Nat) : Prop := ∀ i, lo ≤ i → i ≤ sN A 1 1 * sN A 1 0 → ∀ m, m < 100 → L 345 (100 * i + m) = lN (VV A (9 - numC A i) m).1 ∧ I 346 (100 * i + m) = nI (VV A (9 - numC A i) m).2.1 ∧ (i < sN A 1 1 * sN A 1 0 → I 347 (100 * i + m) = nI (VV A (9 - numC A i) m).2.2)
def RD (I : MI) (L : ML) (I' : MI) (L' : ML) : Prop := (∀ k, k ≠ 346 → k ≠ 347 → I' k = I k) ∧ ∀ k, k ≠ 345 → L' k = L k
section RBEST
variable {A : St} {Y : List (Nat × Nat × Nat × Nat)}
theorem cells9 (hs : SetOk A) : sN A 1 1 * sN A 1 0 ≤ 9 := Nat.mul_le_mul hs.1.2.1 hs.1.1
theorem VV_cells (hs : SetOk A) {m : Nat} : vl (VV A (9 - numC A (sN A 1 1 * sN A 1 0)) m) = (0, 0) := by
  rcases Nat.eq_zero_or_pos (sN A 1 0) with g | g
  · have all : ∀ (d k : Nat), k + d = 9 → vl (VV A (9 - k) m) = (0, 0) := by
      intro d
      induction d with
      | zero => intro k hk; rw [show 9 - k = 0 by omega]; rfl
      | succ d ih =>
        intro k hk
        rw [VV_skip hs (by omega) (by omega)]
        exact ih (k + 1) (by omega)
    unfold numC
    rw [g, Nat.mul_zero]
    exact all 9 0 (by omega)
  · unfold numC
    rw [Nat.mul_div_cancel _ g, Nat.mul_mod_left, Nat.add_zero]
    have := hs.1.2.1
    exact VV_end hs (9 - 3 * sN A 1 1) (3 * sN A 1 1) (by omega) (Nat.le_refl _)
theorem num_f (hs : SetOk A) {i : Nat} (hi : i < sN A 1 1 * sN A 1 0) : 0 < sN A 1 0 ∧ i / sN A 1 0 < sN A 1 1 ∧ i % sN A 1 0 < sN A 1 0 ∧ numC A i < 9 ∧ numC A i / 3 = i / sN A 1 0 ∧ numC A i % 3 = i % sN A 1 0 := by
  have h1 := hs.1.1
  have h2 := hs.1.2.1
  have hP : 0 < sN A 1 0 := by
    rcases Nat.eq_zero_or_pos (sN A 1 0) with g | g
    · rw [g] at hi; omega
    · exact g
  have hb : i / sN A 1 0 < sN A 1 1 := Nat.div_lt_of_lt_mul (by rw [Nat.mul_comm]; exact hi)
  have hm : i % sN A 1 0 < sN A 1 0 := Nat.mod_lt _ hP
  unfold numC
  generalize i / sN A 1 0 = b at *
  generalize i % sN A 1 0 = p at *
  exact ⟨hP, hb, hm, by omega, by omega, by omega⟩
theorem r_pick {I : MI} {L : ML} {i m : Nat} {kf : MI → ML → Prop} (hR : RR I A Y) (hs : SetOk A) (hi : i < sN A 1 1 * sN A 1 0) (hm : m < 100) (hrow : ∀ q, q < 100 → L 345 (100 * (i + 1) + q) = lN (VV A (8 - numC A i) q).1 ∧ I 346 (100 * (i + 1) + q) = nI (VV A (8 - numC A i) q).2.1) (h347 : I 347 (100 * i + m) = -1) (hQ : ∀ I' L', L' 345 (100 * i + m) = lN (VV A (9 - numC A i) m).1 → I' 346 (100 * i + m) = nI (VV A (9 - numC A i) m).2.1 → I' 347 (100 * i + m) = nI (VV A (9 - numC A i) m).2.2 → (∀ a q, ¬ (a = 345 ∧ q = 100 * i + m) → L' a q = L a q) → (∀ a q, ¬ ((a = 346 ∨ a = 347) ∧ q = 100 * i + m) → I' a q = I a q) → kf I' L') : ∃ N, lp_X10_layBest_124 (nI i) (nI (numC A i)) (nI (sN A 2 (numC A i % 3))) (nI m) kf N 0 I L := by
  have h9 := cells9 hs
  obtain ⟨hP, hb, hp, hk9, hk3, hkm⟩ := num_f hs hi
  have hc16 : cK (numC A i) < 16 := by unfold cK; omega
  obtain ⟨hu9, ho13⟩ := uo_b hs hc16
  have hv : vc A (cK (numC A i)) := (cK_vc hk9).mpr ⟨by omega, by omega⟩
  have hp30 := (hs.2.1 (numC A i % 3) (by omega)).1
  have hp1 : 1 ≤ sN A 2 (numC A i % 3) := (hs.2.2.1 (numC A i % 3) (by omega)).1
  have hsc : scan A (VV A (8 - numC A i)) (numC A i) m 9 10 0 (0, 0, 0) = VV A (9 - numC A i) m := by
    have := VV_nine hs (j := 8 - numC A i) (m := m) (by omega) (by rw [show 8 - (8 - numC A i) = numC A i by omega]; exact hp1)
    rw [show 8 - (8 - numC A i) = numC A i by omega, show 8 - numC A i + 1 = 9 - numC A i by omega] at this
    exact this
  have hkc : numC A i = 3 * (numC A i / 3) + numC A i % 3 := by omega
  have hb3 := hs.1.2.1
  have hp3 := hs.1.1
  generalize numC A i = k at *
  have key : ∀ (f s : Nat) (cur : Nat × Nat × Nat) (J : MI) (M : ML), s + f = 10 → (∀ a q, ¬ (a = 345 ∧ q = 100 * i + m) → M a q = L a q) → (∀ a q, ¬ ((a = 346 ∨ a = 347) ∧ q = 100 * i + m) → J a q = I a q) → (s = 0 → J 347 (100 * i + m) = -1) → (s ≠ 0 → M 345 (100 * i + m) = lN cur.1 ∧ J 346 (100 * i + m) = nI cur.2.1 ∧ J 347 (100 * i + m) = nI cur.2.2 ∧ cur.1 ≤ 9 * 3439853568 ∧ cur.2.1 ≤ 99 ∧ cur.2.2 < 100) → scan A (VV A (8 - k)) k m 9 f s cur = VV A (9 - k) m → lp_X10_layBest_124 (nI i) (nI k) (nI (sN A 2 (k % 3))) (nI m) kf (f + 1) (nI s) J M := by
    intro f
    induction f with
    | zero =>
      intro s cur J M hsf fL fI hz hcur hsc
      have hcur := hcur (by omega)
      have hsc : cur = VV A (9 - k) m := hsc
      rw [hsc] at hcur
      unfold lp_X10_layBest_124
      rw [show (10 : Int32) = nI 10 from rfl]
      exact ⟨fun _ => hQ J M hcur.1 hcur.2.1 hcur.2.2.1 fL fI, fun z => absurd (nI_le (by omega) (by omega)) z⟩
    | succ f ih =>
      intro s cur J M hsf fL fI hz hcur hsc
      have hsp : s * sN A 2 (k % 3) ≤ 9 * 30 := Nat.mul_le_mul (by omega) hp30
      have stop : ¬ (s ≤ 9 ∧ s * sN A 2 (k % 3) ≤ m) → kf J M := by
        intro hn
        have h0 : s ≠ 0 := fun g => hn ⟨by omega, by rw [g, Nat.zero_mul]; exact Nat.zero_le _⟩
        have hcur := hcur h0
        rw [scan_s, if_neg hn] at hsc
        rw [hsc] at hcur
        exact hQ J M hcur.1 hcur.2.1 hcur.2.2.1 fL fI
      have hRJ : RR J A Y := hR.cg (by funext q; exact fI 337 q (by omega))
      unfold lp_X10_layBest_124
      rw [show (10 : Int32) = nI 10 from rfl, pk_mul]
      refine ⟨fun z => absurd z (nI_ge (by omega) (by omega)), fun _ => pk_lt m (s * sN A 2 (k % 3)) (fun w => stop (by omega)) (fun w => ?_)⟩
      have ei : (100 * (nI i + 1) + nI m) - nI (s * sN A 2 (k % 3)) = nI (100 * (i + 1) + (m - s * sN A 2 (k % 3))) := by
        rw [nI_1, show (100 : Int32) = nI 100 from rfl, pk_mul, nI_add, pk_sub (by omega)]
        congr 1
        omega
      have eh : (100 : Int32) * nI i + nI m = nI (100 * i + m) := by rw [show (100 : Int32) = nI 100 from rfl, pk_mul, nI_add]
      rw [ei, eh, ix_nI (n := 100 * (i + 1) + (m - s * sN A 2 (k % 3))) (by omega), ix_nI (n := 100 * i + m) (by omega)]
      obtain ⟨r1, r2⟩ := hrow (m - s * sN A 2 (k % 3)) (by omega)
      have m1 : M 345 (100 * (i + 1) + (m - s * sN A 2 (k % 3))) = lN (VV A (8 - k) (m - s * sN A 2 (k % 3))).1 := by rw [fL _ _ (by omega)]; exact r1
      have m2 : J 346 (100 * (i + 1) + (m - s * sN A 2 (k % 3))) = nI (VV A (8 - k) (m - s * sN A 2 (k % 3))).2.1 := by rw [fI _ _ (by omega)]; exact r2
      have vr : vp_in (nI (100 * (i + 1) + (m - s * sN A 2 (k % 3)))) 1000 := vp_in_nI (by omega) (by omega)
      have vh : vp_in (nI (100 * i + m)) 1000 := vp_in_nI (by omega) (by omega)
      have lkQ : ∀ Q' : Int64 → Prop, Q' (lN (lkc A (cK k) s)) → wp_X10_lackOf J (nI k) (nI s) Q' := fun Q' hq => by
        rw [hkc]
        exact r_lack' hRJ hs (by omega) (by omega) (by omega) hq
      refine lkQ _ ?_
      rw [m1, m2, lN_add, nI_add]
      have hcb1 : (cand A (VV A (8 - k)) k m s).1 ≤ 9 * 3439853568 := by
        have a := VV_lack hs (8 - k) (m - s * sN A 2 (k % 3)) (by omega)
        have b := (lkV_d _ hu9 _ ho13 s (by omega)).2.1
        have c : (8 - k) * 3439853568 ≤ 8 * 3439853568 := Nat.mul_le_mul_right _ (by omega)
        unfold cand lkc
        simp only
        omega
      have hcb2 : (cand A (VV A (8 - k)) k m s).2 ≤ 99 := by
        have a := VV_cost hs (8 - k) (m - s * sN A 2 (k % 3)) (by omega)
        unfold cand
        simp only
        omega
      rw [scan_s, if_pos ⟨by omega, w⟩] at hsc
      have c1 : lkc A (cK k) s + (VV A (8 - k) (m - s * sN A 2 (k % 3))).1 = (cand A (VV A (8 - k)) k m s).1 := rfl
      have c2 : s * sN A 2 (k % 3) + (VV A (8 - k) (m - s * sN A 2 (k % 3))).2.1 = (cand A (VV A (8 - k)) k m s).2 := rfl
      rw [c1, c2]
      have take : (s = 0 ∨ (cand A (VV A (8 - k)) k m s).1 < cur.1 ∨ ((cand A (VV A (8 - k)) k m s).1 = cur.1 ∧ (cand A (VV A (8 - k)) k m s).2 < cur.2.1)) → jn_X10_layBest_268 J M (nI i) (nI m) (nI s) (lN (cand A (VV A (8 - k)) k m s).1) (nI (cand A (VV A (8 - k)) k m s).2) (fun x46 I47 L48 => (lp_X10_layBest_124 (nI i) (nI k) (nI (sN A 2 (k % 3))) (nI m) kf (f + 1) x46 I47 L48)) := by
        intro hc
        unfold jn_X10_layBest_268 jn_X10_layBest_273 jn_X10_layBest_322
        rw [eh, ix_nI (by omega), nI_1]
        refine ⟨fun g => absurd g (by decide), fun _ => ⟨vh, fun L11 e11 => ⟨vh, fun I13 e13 => ⟨vh, fun I15 e15 => ?_⟩⟩⟩⟩
        have hu : dpU (cand A (VV A (8 - k)) k m s) s cur = ((cand A (VV A (8 - k)) k m s).1, (cand A (VV A (8 - k)) k m s).2, s) := if_pos hc
        rw [hu] at hsc
        refine ih (s + 1) _ I15 L11 (by omega) (fun a q hai => by rw [e11, u2_at, if_neg hai]; exact fL a q hai) (fun a q hai => ?_) (fun g => by omega) (fun _ => ⟨by rw [e11, u2_s], by rw [e15, u2_ne (by omega), e13, u2_s], by rw [e15, u2_s], hcb1, hcb2, by show s < 100; omega⟩) hsc
        rw [e15, u2_at, if_neg (by omega), e13, u2_at, if_neg (by omega)]
        exact fI a q hai
      have leave : ¬ (s = 0 ∨ (cand A (VV A (8 - k)) k m s).1 < cur.1 ∨ ((cand A (VV A (8 - k)) k m s).1 = cur.1 ∧ (cand A (VV A (8 - k)) k m s).2 < cur.2.1)) → jn_X10_layBest_272 J M (nI i) (nI m) (nI s) (lN (cand A (VV A (8 - k)) k m s).1) (nI (cand A (VV A (8 - k)) k m s).2) (fun x46 I47 L48 => (lp_X10_layBest_124 (nI i) (nI k) (nI (sN A 2 (k % 3))) (nI m) kf (f + 1) x46 I47 L48)) := by
        intro hc
        unfold jn_X10_layBest_272 jn_X10_layBest_273 jn_X10_layBest_322
        refine ⟨fun _ => ?_, fun g => absurd rfl g⟩
        rw [nI_1]
        have hu : dpU (cand A (VV A (8 - k)) k m s) s cur = cur := if_neg hc
        rw [hu] at hsc
        exact ih (s + 1) cur J M (by omega) fL fI (fun g => by omega) (fun _ => hcur (fun g => hc (Or.inl g))) hsc
      refine ⟨vr, vr, vh, ?_⟩
      by_cases g : s = 0
      · exact ⟨fun _ => take (Or.inl g), fun y => absurd (hz g) y⟩
      · obtain ⟨q1, q2, q3, q4, q5, q6⟩ := hcur g
        rw [q1, q2, q3, lg_cmp_lt, pk_lLT (by omega) (by omega), lg_cmp_eq, pk_lEQ (by omega) (by omega)]
        refine ⟨fun y => absurd y (nI_nm (by omega)), fun _ => ⟨vh, fun u => take (Or.inr (Or.inl u)), fun u => ⟨vh, fun y => leave ?_, fun y => ⟨vh, pk_le cur.2.1 (cand A (VV A (8 - k)) k m s).2 (fun x => leave ?_) (fun x => take (Or.inr (Or.inr ⟨y, x⟩)))⟩⟩⟩⟩
        · intro hh
          rcases hh with hh | hh | hh
          · exact g hh
          · exact u hh
          · exact y hh.1
        · intro hh
          rcases hh with hh | hh | hh
          · exact g hh
          · exact u hh
          · omega
  refine ⟨11, ?_⟩
  rw [← nI_0]
  exact key 10 0 (0, 0, 0) I L (by omega) (fun _ _ _ => rfl) (fun _ _ _ => rfl) (fun _ => h347) (fun g => absurd rfl g) hsc
theorem r_layBest {I : MI} {L : ML} {Q : MI → ML → Prop} (hR : RR I A Y) (hs : SetOk A) (hQ : ∀ I' L', MD I' L' A 0 → RD I L I' L' → Q I' L') : wp_X10_layBest I L Q := by
  have h9 := cells9 hs
  have h1 := hs.1.1
  have h2 := hs.1.2.1
  have e0 : I 337 0 = nI (sN A 1 0) := hR.n (j := 1) (i := 0) (by decide)
  have e1 : I 337 1 = nI (sN A 1 1) := hR.n (j := 1) (i := 1) (by decide)
  have cells : ∀ (d : Nat) (x : Int32) (J : MI) (M : ML), d ≤ sN A 1 1 * sN A 1 0 → (d = 0 → x = -1) → (∀ e, d = e + 1 → x = nI e) → MD J M A d → RD I L J M → lp_X10_layBest_56 Q (d + 1) x J M := by
    intro d
    induction d with
    | zero =>
      intro x J M hd hx _ hm hf
      unfold lp_X10_layBest_56
      rw [hx rfl]
      exact ⟨fun _ => hQ J M hm hf, fun z => absurd (by decide) z⟩
    | succ i ih =>
      intro x J M hd _ hx hm hf
      have hx := hx i rfl
      have hi : i < sN A 1 1 * sN A 1 0 := by omega
      obtain ⟨hP, hb, hp, hk9, hk3, hkm⟩ := num_f hs hi
      have hRJ : RR J A Y := hR.cg (hf.1 337 (by omega) (by omega))
      have g0 : J 337 0 = nI (sN A 1 0) := hRJ.n (j := 1) (i := 0) (by decide)
      have g20 : J 337 (20 + i % sN A 1 0) = nI (sN A 2 (i % sN A 1 0)) := hRJ.n (j := 2) (i := i % sN A 1 0) (by unfold rd; simp; omega)
      have hne : ¬ nI (sN A 1 0) = 0 := nI_ne0 hP (by omega)
      unfold lp_X10_layBest_56
      rw [hx, show ix 0 = 0 from by decide, g0, pk_rem (by omega) hP (by omega), pk_div (by omega) hP (by omega)]
      refine ⟨fun z => absurd z (nI_pos (by omega)), fun _ => ⟨v0, hne, v0, hne, r_cellOf ⟨v0, hne, ?_⟩⟩⟩
      rw [show (20 : Int32) + nI (i % sN A 1 0) = nI (20 + i % sN A 1 0) from nI_add 20 _, ix_nI (by omega), g20]
      refine ⟨vp_in_nI (by omega) (by omega), 101, ?_⟩
      rw [show 3 * (i / sN A 1 0) + i % sN A 1 0 = numC A i from rfl, ← hkm]
      have hrow0 : ∀ q, q < 100 → M 345 (100 * (i + 1) + q) = lN (VV A (8 - numC A i) q).1 ∧ J 346 (100 * (i + 1) + q) = nI (VV A (8 - numC A i) q).2.1 := by
        intro q hq
        obtain ⟨a, b, _⟩ := hm (i + 1) (Nat.le_refl _) (by omega) q hq
        have hn := VV_next hs (m := q) hi
        rw [show 9 - (numC A i + 1) = 8 - numC A i by omega] at hn
        have n1 : (VV A (8 - numC A i) q).1 = (VV A (9 - numC A (i + 1)) q).1 := by have := congrArg (fun x : Nat × Nat => x.1) hn; exact this
        have n2 : (VV A (8 - numC A i) q).2.1 = (VV A (9 - numC A (i + 1)) q).2.1 := by have := congrArg (fun x : Nat × Nat => x.2) hn; exact this
        rw [a, b, n1, n2]
        exact ⟨rfl, rfl⟩
      have purses : ∀ (e m : Nat) (J' : MI) (M' : ML), m + e = 100 → MD J' M' A (i + 1) → (∀ w, w < m → M' 345 (100 * i + w) = lN (VV A (9 - numC A i) w).1 ∧ J' 346 (100 * i + w) = nI (VV A (9 - numC A i) w).2.1 ∧ J' 347 (100 * i + w) = nI (VV A (9 - numC A i) w).2.2) → (∀ q, q < 100 → M' 345 (100 * (i + 1) + q) = lN (VV A (8 - numC A i) q).1 ∧ J' 346 (100 * (i + 1) + q) = nI (VV A (8 - numC A i) q).2.1) → RD I L J' M' → lp_X10_layBest_101 (nI i) (nI (numC A i)) (nI (sN A 2 (numC A i % 3))) (fun I77 L78 => (lp_X10_layBest_56 Q (i + 1) (nI i + (-1)) I77 L78)) (e + 1) (nI m) J' M' := by
        intro e
        induction e with
        | zero =>
          intro m J' M' hm' hmd hw hrow hf'
          unfold lp_X10_layBest_101
          rw [show (100 : Int32) = nI 100 from rfl]
          refine ⟨fun _ => ?_, fun z => absurd (nI_le (by omega) (by omega)) z⟩
          refine ih _ J' M' (by omega) (fun g => ?_) (fun q g => ?_) (fun q a b w c => ?_) hf'
          · rw [g]; decide
          · rw [g, pk_m1]
          · by_cases hqi : q = i
            · rw [hqi]
              obtain ⟨x, y, z⟩ := hw w (by omega)
              exact ⟨x, y, fun _ => z⟩
            · exact hmd q (by omega) b w c
        | succ e ih2 =>
          intro m J' M' hm' hmd hw hrow hf'
          have eh : (100 : Int32) * nI i + nI m = nI (100 * i + m) := by rw [show (100 : Int32) = nI 100 from rfl, pk_mul, nI_add]
          unfold lp_X10_layBest_101 jn_X10_layBest_328
          rw [eh, show (100 : Int32) = nI 100 from rfl, ix_nI (by omega)]
          refine ⟨fun z => absurd z (nI_ge (by omega) (by omega)), fun _ => ⟨vp_in_nI (by omega) (by omega), fun I22 e22 => ?_⟩⟩
          have hR22 : RR I22 A Y := hR.cg (by rw [e22, u2_ne (by omega), hf'.1 337 (by omega) (by omega)])
          refine r_pick hR22 hs hi (by omega) (fun q hq => ?_) (by rw [e22, u2_s]) (fun I15 L16 p1 p2 p3 p4 p5 => ?_)
          · obtain ⟨a, b⟩ := hrow q hq
            refine ⟨a, ?_⟩
            rw [e22, u2_ne (by omega)]
            exact b
          · have p5' : ∀ a q, ¬ ((a = 346 ∨ a = 347) ∧ q = 100 * i + m) → I15 a q = J' a q := fun a q h => by rw [p5 a q h, e22, u2_at, if_neg (by omega)]
            rw [nI_1]
            refine ih2 (m + 1) I15 L16 (by omega) (fun q a b w c => ?_) (fun w hw' => ?_) (fun q hq => ?_) ⟨fun a ha hb => by funext q; rw [p5' a q (by omega), hf'.1 a ha hb], fun a ha => by funext q; rw [p4 a q (by omega), hf'.2 a ha]⟩
            · have h := hmd q a b w c
              rw [p4 _ _ (by omega), p5' _ _ (by omega), p5' _ _ (by omega)]
              exact h
            · by_cases hwm : w = m
              · rw [hwm]; exact ⟨p1, p2, p3⟩
              · have h := hw w (by omega)
                rw [p4 _ _ (by omega), p5' _ _ (by omega), p5' _ _ (by omega)]
                exact h
            · have h := hrow q hq
              rw [p4 _ _ (by omega), p5' _ _ (by omega)]
              exact h
      rw [← nI_0]
      exact purses 100 0 J M (by omega) hm (fun w hw => absurd hw (by omega)) hrow0 hf
  have last : ∀ (e m : Nat) (J : MI) (M : ML), m + e = 100 → (∀ w, w < m → M 345 (100 * (sN A 1 1 * sN A 1 0) + w) = 0 ∧ J 346 (100 * (sN A 1 1 * sN A 1 0) + w) = 0) → RD I L J M → lp_X10_layBest_16 (nI (sN A 1 1 * sN A 1 0)) (fun I9 L10 => (∃ N79, lp_X10_layBest_56 Q N79 (nI (sN A 1 1 * sN A 1 0) - 1) I9 L10)) (e + 1) (nI m) J M := by
    intro e
    induction e with
    | zero =>
      intro m J M hm hw hf
      unfold lp_X10_layBest_16
      rw [show (100 : Int32) = nI 100 from rfl]
      refine ⟨fun _ => ⟨sN A 1 1 * sN A 1 0 + 1, ?_⟩, fun z => absurd (nI_le (by omega) (by omega)) z⟩
      refine cells _ _ J M (Nat.le_refl _) (fun g => ?_) (fun q g => ?_) (fun q a b w c => ?_) hf
      · rw [g]; decide
      · rw [g, nI_pred]
      · have hq : q = sN A 1 1 * sN A 1 0 := by omega
        subst hq
        obtain ⟨x, y⟩ := hw w (by omega)
        have hz := VV_cells hs (m := w)
        have n1 : (VV A (9 - numC A (sN A 1 1 * sN A 1 0)) w).1 = 0 := by have := congrArg (fun x : Nat × Nat => x.1) hz; exact this
        have n2 : (VV A (9 - numC A (sN A 1 1 * sN A 1 0)) w).2.1 = 0 := by have := congrArg (fun x : Nat × Nat => x.2) hz; exact this
        rw [x, y, n1, n2]
        exact ⟨rfl, rfl, fun g => absurd g (Nat.lt_irrefl _)⟩
    | succ e ih =>
      intro m J M hm hw hf
      have eh : (100 : Int32) * nI (sN A 1 1 * sN A 1 0) + nI m = nI (100 * (sN A 1 1 * sN A 1 0) + m) := by rw [show (100 : Int32) = nI 100 from rfl, pk_mul, nI_add]
      unfold lp_X10_layBest_16
      rw [eh, show (100 : Int32) = nI 100 from rfl, ix_nI (by omega), nI_1]
      refine ⟨fun z => absurd z (nI_ge (by omega) (by omega)), fun _ => ⟨vp_in_nI (by omega) (by omega), fun L6 e6 => ⟨vp_in_nI (by omega) (by omega), fun I8 e8 => ?_⟩⟩⟩
      refine ih (m + 1) I8 L6 (by omega) (fun w hw' => ?_) ⟨fun a ha hb => by rw [e8, u2_ne ha]; exact hf.1 a ha hb, fun a ha => by rw [e6, u2_ne ha]; exact hf.2 a ha⟩
      by_cases hwm : w = m
      · rw [hwm, e6, u2_s, e8, u2_s]; exact ⟨rfl, rfl⟩
      · rw [e6, u2_n2 (by omega), e8, u2_n2 (by omega)]; exact hw w (by omega)
  unfold wp_X10_layBest
  rw [show ix 1 = 1 from by decide, show ix 0 = 0 from by decide, e0, e1, pk_mul]
  refine ⟨v1, v0, 101, ?_⟩
  rw [← nI_0]
  exact last 100 0 I L (by omega) (fun w hw => absurd hw (by omega)) ⟨fun _ _ _ => rfl, fun _ _ => rfl⟩
end RBEST
