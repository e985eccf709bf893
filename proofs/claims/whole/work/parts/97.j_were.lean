/-! by another rule; the best keep -/
theorem h_lo : ∀ w, w < 3 → (wTab.getD 2 []).getD (ix (nI (2 - w))) 0 = nI (byL w) := by decide +kernel
theorem h_hi : ∀ w, w < 3 → (wTab.getD 3 []).getD (ix (nI (2 - w))) 0 = nI (byH w) := by decide +kernel
theorem byL_lt (w : Nat) : byL w < 2 ^ 31 := by unfold byL; split <;> omega
theorem byH_lt (w : Nat) : byH w < 2 ^ 31 := by unfold byH; split <;> (try split) <;> omega
section WERJ
variable {k : Nat} {I I' I1 I2 I3 : MI} {L L' : ML} {A B C : St} {U : List St} {t : Nat → Nat} {n : Nat} {Y : List (Nat × Nat × Nat × Nat)} {a b c d e : Int32}
theorem c_whichW {w : Nat} {Q : Int32 → Prop} (hw : w ≤ 2) (hQ : Q (nI (2 - w))) : wp_X9_whichWord (nI w) Q := by
  have w3 : w = 0 ∨ w = 1 ∨ w = 2 := by omega
  unfold wp_X9_whichWord
  rcases w3 with rfl | rfl | rfl
  · exact j1 rfl hQ
  · exact j0 (by decide) (j1 rfl hQ)
  · exact j0 (by decide) (j0 (by decide) hQ)
theorem c_fitsH {w : Nat} {v : Int32} {Q : Int32 → Prop} (hw : w ≤ 2) (h1 : ∀ j, byL w ≤ j → j ≤ byH w → v = nI j → Q 1) (h0 : (∀ j, byL w ≤ j → j ≤ byH w → ¬ v = nI j) → Q 0) : wp_X7_fitsHouse I (nI (2 - w)) v Q := by
  have vp : vp_in (nI (2 - w)) 14 := vp_in_nI (by omega) (by omega)
  unfold wp_X7_fitsHouse
  rw [h_lo w (by omega), h_hi w (by omega)]
  refine i0 (nI_pos (by omega)) (i0 (nI_nlt (a := 2) (b := 2 - w) (by omega) (by omega)) ⟨vp, ?_⟩)
  by_cases hv : ∃ j, byL w ≤ j ∧ j ≤ byH w ∧ v = nI j
  · obtain ⟨j, a, b, rfl⟩ := hv
    have := byH_lt w
    exact i0 (nI_nlt a (by omega)) ⟨vp, i0 (nI_nlt b this) (h1 j a b rfl)⟩
  · have hn := h0 (fun j a b c => hv ⟨j, a, b, c⟩)
    exact ⟨fun _ => hn, fun z => ⟨vp, fun _ => hn, fun z2 => absurd (rngG (byL_lt w) (byH_lt w) z z2) hv⟩⟩
theorem r_byN {w : Nat} {v : Int32} {m x : Int32} {Q : Int32 → MI → Prop} (hY : RR I A Y) (hd : dayOk A m 12) (hw : w ≤ 2) (hn : ∀ j, byL w ≤ j → j ≤ byH w → ¬ v = nI j) (hQ : Q (-1) I) : wp_X10_by I m x (nI w) v Q := by
  unfold wp_X10_by
  refine r_areDays hY (fun _ => i0 o1 (inY (lo := 0) (hi := 2) (by omega) hw (by omega) (i0 o1 ?_))) (fun z => absurd hd z)
  have w3 : w = 0 ∨ w = 1 ∨ w = 2 := by omega
  rcases w3 with rfl | rfl | rfl
  · refine j0 (by decide) ?_
    unfold jn_X10_by_31 jn_X10_by_49
    exact j1 rfl (inN (lo := 0) (hi := 1) (by omega) (by omega) hn (j1 rfl hQ))
  · refine j0 (by decide) ?_
    unfold jn_X10_by_31 jn_X10_by_49
    exact j0 (by decide) (j1 rfl (inN (lo := 0) (hi := 4) (by omega) (by omega) hn (j1 rfl hQ)))
  · refine j1 rfl ?_
    unfold jn_X10_by_31 jn_X10_by_49
    exact j0 (by decide) (j0 (by decide) (inN (lo := 1) (hi := 3) (by omega) (by omega) hn (j1 rfl hQ)))
theorem m_by {Q : Int32 → MI → ML → Prop} (hk : k ≤ 512) (h : Iv k I L) (hQ : ∀ x I' L', (∀ Q2 : Int32 → MI → Prop, (∀ I'', Iv (k + 1) I'' L' → Q2 x I'') → wp_X10_by I' a b c d Q2) → Q x I' L') : wp_X9_by I L a b c d Q := by
  have h0 := h.up
  obtain ⟨A, U, t, n, hc, hr, hp, hu⟩ := h
  have hs := hp.1.1
  have hbd := hp.2.2.2.2
  have h9 := hp.2.2.1
  obtain ⟨Y, hY⟩ := hr.1
  unfold wp_X9_by
  refine c_canGoBy hc.1 (fun hd => i0 o1 ?_) (fun hd => i1 rfl (hQ _ _ _ (fun Q2 h2 => ?_)))
  · by_cases hw : ∃ w, 0 ≤ w ∧ w ≤ 2 ∧ c = nI w
    · obtain ⟨w, -, hw, rfl⟩ := hw
      refine i0 (nI_pos (by omega)) (i1 (nI_le (a := w) (b := 2) hw (by omega)) (c_whichW hw (c_fitsH hw (fun v a1 a2 ev => j0 o1 ?_) (fun hn => j1 rfl (hQ _ _ _ (fun Q2 h2 => r_byN hY hd hw hn (h2 _ h0)))))))
      subst ev
      obtain ⟨m, em, m1, m2, m3⟩ := dayOk.nat (m := 12) (by omega) hd h9
      subst em
      obtain ⟨g1, g2, g3, g4⟩ := by_good hp hw a1 a2
      obtain ⟨s1, d1, e1⟩ := g4 (4 - w) rfl
      refine c_copyFrom (Or.inl (by omega)) hc.1 (fun I1 L1 c1 f1 => ?_)
      have go : ∀ I2 L2, CR 24 I2 L2 (byS A w v) → Fr 24 I1 L1 I2 L2 → jn_X9_by_97 I2 L2 (nI m) b Q := by
        intro I2 L2 c2 f2
        unfold jn_X9_by_97
        refine c_lbr c2 g1 m2 (by omega) (by omega) (fun I3 L3 f3 => hQ _ _ _ (fun Q2 h2 => ?_))
        exact r_byV hk (hr.fr ((f1.tr f2).tr f3).hc24) hp hd m2 m3 hw a1 a2 (fun I4 v4 l4 => h2 _ (Iv.mk' (hc.were ((f1.tr f2).tr f3)) v4 l4 hp.up (PGs_up hu)))
      have w3 : w = 0 ∨ w = 1 ∨ w = 2 := by omega
      rcases w3 with rfl | rfl | rfl
      · exact j1 rfl (fun I2 e2 => go I2 L1 (c1.putN (j := 1) (i := 4) (nd1 (by omega)) e2) (Fr.uI (j := 1) e2 (by omega)))
      · exact j0 (by decide) (j1 rfl (fun I2 e2 => go I2 L1 (c1.putN (j := 1) (i := 3) (nd1 (by omega)) e2) (Fr.uI (j := 1) e2 (by omega))))
      · exact j0 (by decide) (j0 (by decide) (c_haveBenches c1 s1 d1 (by omega) (fun I2 L2 c2 f2 => go I2 L2 c2 f2)))
    · have hn : ∀ j, 0 ≤ j → j ≤ 2 → ¬ c = nI j := fun j x y z => hw ⟨j, x, y, z⟩
      have no : Q (-1) I L := hQ _ _ _ (fun Q2 h2 => by
        unfold wp_X10_by
        exact r_areDays hY (fun _ => i0 o1 (inN (lo := 0) (hi := 2) (by omega) (by omega) hn (i1 rfl (h2 _ h0)))) (fun z => absurd hd z))
      exact ⟨fun _ => no, fun z => ⟨fun z2 => absurd (rngG (lo := 0) (hi := 2) (by omega) (by omega) z (fun g => absurd z2 (Int32.not_le.mpr g))) hw, fun _ => no⟩⟩
  · unfold wp_X10_by
    exact r_areDays hY (fun z => absurd z hd) (fun _ => i1 rfl (h2 _ h0))
/-- the best keep of the first ones, and what is late by it -/
def bkS (g : Nat → Int32) : Nat → Int32 × Int32
  | 0 => (0, g 0)
  | i + 1 => if (bkS g i).2 ≤ g (i + 1) then bkS g i else (nI (i + 1), g (i + 1))
theorem bkS_y {g : Nat → Int32} {i : Nat} (h : (bkS g i).2 ≤ g (i + 1)) : bkS g (i + 1) = bkS g i := by
  show (if (bkS g i).2 ≤ g (i + 1) then bkS g i else (nI (i + 1), g (i + 1))) = _
  rw [if_pos h]
theorem bkS_n {g : Nat → Int32} {i : Nat} (h : ¬ (bkS g i).2 ≤ g (i + 1)) : bkS g (i + 1) = (nI (i + 1), g (i + 1)) := by
  show (if (bkS g i).2 ≤ g (i + 1) then bkS g i else (nI (i + 1), g (i + 1))) = _
  rw [if_neg h]
theorem c_bkL {m : Nat} {Q : Int32 → MI → ML → Prop} (hk : k ≤ 512) (hc0 : VC I L A U t n) (hp : PG k A) (hm : m ≤ 12) (h9 : sN A 0 9 + m ≤ 9999) (hQ : ∀ I' L', VC I' L' A U t n → HC I I' → Q (bkS (byV A m b 1) 4).1 I' L') : ∃ N, lp_X9_bestKeep_23 (nI m) b Q N 0 0 0 I L := by
  have hbd := hp.2.2.2.2
  have key : ∀ (r i : Nat) (v3 v4 : Int32) (J : MI) (K : ML), i + r = 5 → VC J K A U t n → HC I J → (i = 0 ∨ ∃ q, i = q + 1 ∧ (v3, v4) = bkS (byV A m b 1) q) → lp_X9_bestKeep_23 (nI m) b Q (r + 1) v3 v4 (nI i) J K := by
    intro r
    induction r with
    | zero =>
      intro i v3 v4 J K hi hV hH hb
      have e5 : i = 5 := by omega
      subst e5
      unfold lp_X9_bestKeep_23
      rcases hb with hb | ⟨q, hq, hb⟩
      · omega
      · have eq : q = 4 := by omega
        subst eq
        refine i1 (by decide) ?_
        have := hQ J K hV hH
        rw [← hb] at this
        exact this
    | succ r ih =>
      intro i v3 v4 J K hi hV hH hb
      unfold lp_X9_bestKeep_23
      obtain ⟨g1, g2, g3, g4⟩ := by_good (w := 1) (v := i) hp (by omega) (Nat.zero_le _) (show i ≤ 4 by omega)
      refine i0 (nI_nlt (a := 4) (b := i) (by omega) (by omega)) (c_copyFrom (Or.inl (by omega)) hV.1 (fun I1 L1 c1 f1 I2 e2 => ?_))
      have c2 : CR 24 I2 L1 (byS A 1 i) := c1.putN (j := 1) (i := 3) (nd1 (by omega)) e2
      have f2 : Fr 24 I1 L1 I2 L1 := Fr.uI (j := 1) e2 (by omega)
      refine c_lbr c2 g1 hm (by omega) (by omega) (fun I3 L3 f3 => ?_)
      have w3 := hV.were ((f1.tr f2).tr f3)
      have h3 := hH.tr ((f1.tr f2).tr f3).hc24
      unfold jn_X9_bestKeep_72 jn_X9_bestKeep_79
      rw [nI_1]
      rcases hb with rfl | ⟨q, rfl, hb⟩
      · exact i1 rfl (ih 1 _ _ I3 L3 (by omega) w3 h3 (Or.inr ⟨0, rfl, rfl⟩))
      · have e3 : v3 = (bkS (byV A m b 1) q).1 := congrArg (fun z => z.1) hb
        have e4 : v4 = (bkS (byV A m b 1) q).2 := congrArg (fun z => z.2) hb
        refine i0 (nI_ne0 (by omega) (by omega)) ⟨fun hle => ?_, fun hle => ?_⟩
        · refine ih (q + 1 + 1) _ _ I3 L3 (by omega) w3 h3 (Or.inr ⟨q + 1, rfl, ?_⟩)
          rw [e4] at hle
          rw [bkS_y hle, hb]
        · refine ih (q + 1 + 1) _ _ I3 L3 (by omega) w3 h3 (Or.inr ⟨q + 1, rfl, ?_⟩)
          rw [e4] at hle
          rw [bkS_n hle]
          rfl
  exact ⟨6, by rw [← nI_0]; exact key 5 0 _ _ I L (by omega) hc0 HC.rf (Or.inl rfl)⟩
theorem r_bkL {m : Nat} {Q : Int32 → MI → Prop} (hk : k ≤ 512) (h : VR I A U t n) (hp : PG k A) (hd : dayOk A (nI m) 12) (hm : m ≤ 12) (h9 : sN A 0 9 + m ≤ 9999) (hQ : ∀ I', VR I' A U t n → LC I I' → Q (bkS (byV A m b 1) 4).1 I') : ∃ N, lp_X10_bestKeep_27 (nI m) b Q N 0 (byV A m b 1 0) 1 I := by
  have key : ∀ (r i : Nat) (v3 v4 : Int32) (J : MI), i + r = 4 → VR J A U t n → LC I J → (v3, v4) = bkS (byV A m b 1) i → lp_X10_bestKeep_27 (nI m) b Q (r + 1) v3 v4 (nI (i + 1)) J := by
    intro r
    induction r with
    | zero =>
      intro i v3 v4 J hi hV hH hb
      have e5 : i = 4 := by omega
      subst e5
      unfold lp_X10_bestKeep_27
      refine i1 (by decide) ?_
      have := hQ J hV hH
      rw [← hb] at this
      exact this
    | succ r ih =>
      intro i v3 v4 J hi hV hH hb
      unfold lp_X10_bestKeep_27
      refine i0 (nI_ge (a := i + 1) (b := 5) (by omega) (by omega)) (r_byV (w := 1) hk hV hp hd hm h9 (by omega) (Nat.zero_le _) (show i + 1 ≤ 4 by omega) (fun I2 v2 l2 => ?_))
      have e3 : v3 = (bkS (byV A m b 1) i).1 := congrArg (fun z => z.1) hb
      have e4 : v4 = (bkS (byV A m b 1) i).2 := congrArg (fun z => z.2) hb
      unfold jn_X10_bestKeep_57 jn_X10_bestKeep_72
      rw [nI_1]
      refine ⟨fun hle => i1 hle ?_, fun hle => i0 hle ?_⟩
      · refine ih (i + 1) _ _ I2 (by omega) v2 (hH.tr l2) ?_
        rw [e4] at hle
        rw [bkS_y hle, hb]
      · refine ih (i + 1) _ _ I2 (by omega) v2 (hH.tr l2) ?_
        rw [e4] at hle
        rw [bkS_n hle]
  exact ⟨5, key 4 0 _ _ I (by omega) h LC.rf rfl⟩
theorem m_bestKeep {Q : Int32 → MI → ML → Prop} (hk : k ≤ 512) (h : Iv k I L) (hQ : ∀ x I' L', (∀ Q2 : Int32 → MI → Prop, (∀ I'', Iv (k + 1) I'' L' → Q2 x I'') → wp_X10_bestKeep I' a b Q2) → Q x I' L') : wp_X9_bestKeep I L a b Q := by
  have h0 := h.up
  obtain ⟨A, U, t, n, hc, hr, hp, hu⟩ := h
  have h9 := hp.2.2.1
  obtain ⟨Y, hY⟩ := hr.1
  unfold wp_X9_bestKeep
  refine c_canGoBy hc.1 (fun hd => j0 o1 ?_) (fun hd => j1 rfl (hQ _ _ _ (fun Q2 h2 => ?_)))
  · obtain ⟨m, em, m1, m2, m3⟩ := dayOk.nat (m := 12) (by omega) hd h9
    subst em
    refine c_bkL hk hc hp m2 m3 (fun I1 L1 v1 f1 => hQ _ _ _ (fun Q2 h2 => ?_))
    have hr' := hr.fr f1
    obtain ⟨Y', hY'⟩ := hr'.1
    unfold wp_X10_bestKeep
    exact r_areDays hY' (fun _ => j0 o1 (r_byV (w := 1) (v := 0) hk hr' hp hd m2 m3 (by omega) (Nat.zero_le _) (Nat.zero_le _) (fun I2 v2 l2 => r_bkL hk v2 hp hd m2 m3 (fun I3 v3 l3 => h2 _ (Iv.mk' v1 v3 (l2.tr l3) hp.up (PGs_up hu)))))) (fun z => absurd hd z)
  · unfold wp_X10_bestKeep
    exact r_areDays hY (fun z => absurd z hd) (fun _ => j1 rfl (h2 _ h0))
end WERJ
