theorem units72 {A : St} (hs : SetOk A) : tot (sN A 7) 16 ≤ 72 := by
  have h1 := hs.1.1
  have h2 := hs.1.2.1
  have g : ∀ c, c < 16 → sN A 7 c ≤ (if c / 4 < 3 ∧ c % 4 < 3 then 8 else 0) := by
    intro c hc
    have a := (hs.2.2.2.2.1 c hc).1
    by_cases hv : c / 4 < 3 ∧ c % 4 < 3
    · rw [if_pos hv]; exact a
    · rw [if_neg hv]
      have := (hs.2.2.2.2.2.1 c hc (fun z => hv (by unfold vc at z; omega))).1
      omega
  have := tot_mono (f := sN A 7) 16 g
  have e : tot (fun c => if c / 4 < 3 ∧ c % 4 < 3 then 8 else 0) 16 = 72 := by decide
  omega
theorem wlen {A : St} {t s : Nat} (hs : SetOk A) (h : DynX t s A) : (sW A).length = tot (sN A 11) 16 := by
  rw [← tot_count (fun w : Nat × Nat × Nat => w.1) 16 (sW A) (fun w hw => by
    have := vc_lt hs (h.2.2.2.1 w hw).1
    omega)]
  exact tot_ext 16 (fun i hi => (h.1 i hi).2.symm)
theorem wlen72 {A : St} {t s : Nat} (hs : SetOk A) (h : DynX t s A) : (sW A).length ≤ 72 := by
  rw [wlen hs h]
  exact Nat.le_trans (tot_mono 16 (fun i hi => (h.1 i hi).1)) (units72 hs)
/-- a day more -/
theorem day_ok {A : St} {d : Nat} (hs : SetOk A) (h : DynOk A) (hd : sN A 0 9 ≤ d) (hd2 : d ≤ 10000) : SetOk (setN A 0 9 d) ∧ DynOk (setN A 0 9 d) := by
  have e : ∀ j, j ≠ 0 → sN (setN A 0 9 d) j = sN A j := fun j h1 => by
    funext i
    simp [sN, setN, u2_at, h1]
  have e9 : sN (setN A 0 9 d) 0 9 = d := by simp [sN, setN, u2_at]
  have e10 : sN (setN A 0 9 d) 0 10 = sN A 0 10 := by simp [sN, setN, u2_at]
  have e11 : sN (setN A 0 9 d) 0 11 = sN A 0 11 := by simp [sN, setN, u2_at]
  refine ⟨hs.same (fun j h1 _ => e j (by omega)), ?_⟩
  obtain ⟨h1, h2, h3, h4, h5, h6, h7, h8, h9, h10, h11, h12, h13, h14⟩ := h
  unfold TP at h8
  unfold DynOk DynT DynX TP
  simp only [vc_eq (e 1 (by omega)), e 1 (by omega), e 7 (by omega), e 10 (by omega), e 11 (by omega), e 13 (by omega), e9, e10, e11]
  exact ⟨h1, h2, h3, fun w hw => ⟨(h4 w hw).1, by have := (h4 w hw).2.1; show w.2.1 ≤ d; omega, (h4 w hw).2.2⟩, fun w hw => ⟨(h5 w hw).1, by have := (h5 w hw).2; show w.2 ≤ d; omega⟩, fun y hy => ⟨(h6 y hy).1, (h6 y hy).2.1, (h6 y hy).2.2.1, by have := (h6 y hy).2.2.2; omega⟩, h7, h8, h9, h10, h11, h12, hd2, h14⟩
/-- the state between acts -/
def Rest (A : St) : Prop := YD A (sN A 0 9 + 1) ∧ fullQ A
theorem goDay_ok {A : St} (hs : SetOk A) (h : DynOk A) (hr : Rest A) (hd : sN A 0 9 < 10000) : SetOk (goDay A) ∧ DynOk (goDay A) ∧ Rest (goDay A) ∧ NL (goDay A) ∧ sN (goDay A) 0 9 = sN A 0 9 + 1 ∧ sN (goDay A) 0 10 ≤ sN A 0 10 + 35032 ∧ (∀ j, 1 ≤ j → j ≤ 9 → sN (goDay A) j = sN A j) := by
  obtain ⟨a1, a2⟩ := day_ok (d := sN A 0 9 + 1) hs h (by omega) (by omega)
  obtain ⟨b1, b2, b3⟩ := arr_ok 184 a1 a2
  obtain ⟨c1, c2, c3, c4⟩ := arr_ps 184 a1 a2
  have e9 : sN (setN A 0 9 (sN A 0 9 + 1)) 0 9 = sN A 0 9 + 1 := by simp [sN, setN, u2_at]
  have e10 : sN (setN A 0 9 (sN A 0 9 + 1)) 0 10 = sN A 0 10 := by simp [sN, setN, u2_at]
  have e11 : sN (setN A 0 9 (sN A 0 9 + 1)) 0 11 = sN A 0 11 := by simp [sN, setN, u2_at]
  have ej : ∀ j, 1 ≤ j → sN (setN A 0 9 (sN A 0 9 + 1)) j = sN A j := fun j h1 => by
    funext i
    simp [sN, setN, u2_at]
    omega
  have hyl := a2.yl
  have hfull : fullQ (setN A 0 9 (sN A 0 9 + 1)) := by
    unfold fullQ
    rw [e11, ej 1 (by omega)]
    exact hr.2
  rw [e9] at c1 c4
  have hY := c4 hr.1 (by
    unfold due
    have := List.countP_le_length (p := fun y : Nat × Nat × Nat × Nat => decide (y.2.2.2 ≤ sN (setN A 0 9 (sN A 0 9 + 1)) 0 9)) (l := sY (setN A 0 9 (sN A 0 9 + 1)))
    omega)
  have hF := c3 hfull
  have hw := wlen72 b1 b2
  obtain ⟨d1, d2, d3, d4, d5⟩ := lends_ok (sW (arr 184 (setN A 0 9 (sN A 0 9 + 1)))).length 0 b1 b2
  obtain ⟨p1, p2, p3, p4⟩ := ps_lends (sW (arr 184 (setN A 0 9 (sN A 0 9 + 1)))).length 0 b1 b2
  have eg : goDay A = lends (sW (arr 184 (setN A 0 9 (sN A 0 9 + 1)))).length 0 (arr 184 (setN A 0 9 (sN A 0 9 + 1))) := rfl
  rw [eg]
  refine ⟨d1, d2, ⟨?_, ?_⟩, p4 (fun k w hk => absurd hk (by omega)) (by omega), by rw [d4, c1], by omega, fun j h1 h2 => by rw [d5 j h1 h2, c2 j h1 h2, ej j h1]⟩
  · rw [d4, c1]
    refine p1.yd hY ?_
    rw [c1]
    omega
  · unfold fullQ
    rw [p2, p3, d5 1 (by omega) (by omega)]
    exact hF
section BRK
variable {A : St} {c : Nat}
theorem brkA_ok (hs : SetOk A) (h : DynOk A) (hv : vc A c) (hc : canBr A c) : DynX 182 0 (brkA A c) ∧ SetOk (brkA A c) ∧ PS A (brkA A c) ∧ sN (brkA A c) 0 10 = sN A 0 10 ∧ sN (brkA A c) 0 11 = sN A 0 11 ∧ sQ (brkA A c) = sQ A ∧ sC (brkA A c) = sC A ∧ sY (brkA A c) = sY A := by
  have hc12 := vc_lt hs hv
  have hc16 : c < 16 := by omega
  unfold canBr at hc
  unfold brkA
  by_cases h0 : sN A 10 c = 0
  · rw [if_pos h0]
    have e : ∀ j, j ≠ 11 → sN (setW (setN (setT A 0 12 (sT A 0 12 + 1)) 11 c (sN A 11 c + 1)) (sW A ++ [(c, sN A 0 9, 0)])) j = sN A j := fun j h1 => by
      funext i
      simp [sN, setN, u2_at, h1]
    have e11 : ∀ k, k ≠ c → sN (setW (setN (setT A 0 12 (sT A 0 12 + 1)) 11 c (sN A 11 c + 1)) (sW A ++ [(c, sN A 0 9, 0)])) 11 k = sN A 11 k := fun k hk => by simp [sN, setN, u2_at, hk]
    have e11c : sN (setW (setN (setT A 0 12 (sT A 0 12 + 1)) 11 c (sN A 11 c + 1)) (sW A ++ [(c, sN A 0 9, 0)])) 11 c = sN A 11 c + 1 := by simp [sN, setN, u2_at]
    refine ⟨?_, hs.same (fun j h1 h2 => e j (by omega)), ⟨by rw [e 0 (by omega)], fun j h1 h2 => e j (by omega), fun _ _ => rfl⟩, by rw [e 0 (by omega)], by rw [e 0 (by omega)], rfl, rfl, rfl⟩
    obtain ⟨h1, h2, h3, h4, h5, h6, h7, h8, h9, h10, h11, h12, h13, h14⟩ := h
    unfold TP at h8
    have ht := tot_upd (f := fun k => sN A 7 k - sN A 11 k) (g := fun k => sN A 7 k - sN (setW (setN (setT A 0 12 (sT A 0 12 + 1)) 11 c (sN A 11 c + 1)) (sW A ++ [(c, sN A 0 9, 0)])) 11 k) (i := c) (fun k hk => by simp only [e11 k hk]) 16 hc16
    simp only [e11c] at ht
    unfold DynX TP
    simp only [vc_eq (e 1 (by omega)), e 1 (by omega), e 7 (by omega), e 0 (by omega), e 10 (by omega), e 13 (by omega)]
    refine ⟨fun k hk => ?_, h2, h3, fun w hw => ?_, h5, h6, h7, ?_, h9, h10, h11, h12, h13, ?_⟩
    · show _ ≤ _ ∧ _ = (sW A ++ [(c, sN A 0 9, 0)]).countP _
      rw [List.countP_append]
      by_cases hkc : k = c
      · subst hkc
        rw [e11c, (h1 k hk).2]
        have := h1 k hk
        simp
        omega
      · rw [e11 k hkc]
        have := h1 k hk
        have hz : ¬ c = k := fun z => hkc z.symm
        simp [hz]
        exact this
    · have hw : w ∈ sW A ++ [(c, sN A 0 9, 0)] := hw
      rcases List.mem_append.mp hw with hw | hw
      · exact h4 w hw
      · have : w = (c, sN A 0 9, 0) := by simpa using hw
        rw [this]
        exact ⟨hv, Nat.le_refl _, by simp⟩
    · show (sY A).length + (sQ A).length + _ + _ + _ ≤ 182
      omega
    · show (sW A ++ [(c, sN A 0 9, 0)]).Pairwise _
      rw [List.pairwise_append]
      refine ⟨h14, by simp, fun a ha b hb => ?_⟩
      have : b = (c, sN A 0 9, 0) := by simpa using hb
      rw [this]
      exact (h4 a ha).2.1
  · rw [if_neg h0]
    have e : ∀ j, j ≠ 10 → sN (setT (setN (setT A 0 12 (sT A 0 12 + 1)) 10 c (sN A 10 c - 1)) 0 13 (sT A 0 13 + 1)) j = sN A j := fun j h1 => by
      funext i
      simp [sN, setN, u2_at, h1]
    have e10 : ∀ k, k ≠ c → sN (setT (setN (setT A 0 12 (sT A 0 12 + 1)) 10 c (sN A 10 c - 1)) 0 13 (sT A 0 13 + 1)) 10 k = sN A 10 k := fun k hk => by simp [sN, setN, u2_at, hk]
    have e10c : sN (setT (setN (setT A 0 12 (sT A 0 12 + 1)) 10 c (sN A 10 c - 1)) 0 13 (sT A 0 13 + 1)) 10 c = sN A 10 c - 1 := by simp [sN, setN, u2_at]
    refine ⟨?_, hs.same (fun j h1 h2 => e j (by omega)), ⟨by rw [e 0 (by omega)], fun j h1 h2 => e j (by omega), fun _ _ => rfl⟩, by rw [e 0 (by omega)], by rw [e 0 (by omega)], rfl, rfl, rfl⟩
    obtain ⟨h1, h2, h3, h4, h5, h6, h7, h8, h9, h10, h11, h12, h13, h14⟩ := h
    unfold TP at h8
    have ht := tot_upd e10 16 hc16
    rw [e10c] at ht
    unfold DynX TP
    simp only [vc_eq (e 1 (by omega)), e 1 (by omega), e 7 (by omega), e 0 (by omega), e 11 (by omega), e 13 (by omega)]
    refine ⟨h1, fun k hk hn => ?_, h3, h4, h5, h6, h7, ?_, h9, h10, h11, h12, h13, h14⟩
    · rw [e10 k (fun z => hn (z ▸ hv))]
      exact h2 k hk hn
    · show (sY A).length + (sQ A).length + _ + _ + _ ≤ 182
      omega
theorem setC_begW {B : St} {k c d : Nat} {l : List (Nat × Nat)} : setC (begW B k c d) l = begW (setC B l) k c d := by
  unfold begW
  by_cases hk : k = 2
  · rw [if_pos hk, if_pos hk]
  · rw [if_neg hk, if_neg hk]
abbrev brkC (A : St) (c : Nat) : St := setC (begW (brkA A c) 1 c (sN A 6 (c / 4))) (sC A ++ [(c, sN A 0 9)])
theorem brkC_ok (hs : SetOk A) (h : DynOk A) (hv : vc A c) (hc : canBr A c) : DynOk (brkC A c) ∧ SetOk (brkC A c) ∧ PS A (brkC A c) ∧ sN (brkC A c) 0 10 = sN A 0 10 + 1 ∧ sN (brkC A c) 0 11 = sN A 0 11 ∧ sQ (brkC A c) = sQ A := by
  obtain ⟨a1, a2, a3, a4, a5, a6, a7, a8⟩ := brkA_ok hs h hv hc
  have hc12 := vc_lt hs hv
  have hship := hs.2.2.2.1 (c / 4) hv.1
  have hship9 := (hs.2.1 (c / 4) (by omega)).2.2.2.2
  have b1 : DynX 182 1 (setC (brkA A c) (sC A ++ [(c, sN A 0 9)])) := by
    obtain ⟨h1, h2, h3, h4, h5, h6, h7, h8, h9, h10, h11, h12, h13, h14⟩ := a1
    refine ⟨h1, h2, h3, h4, fun w hw => ?_, h6, h7, h8, ?_, h10, h11, h12, h13, h14⟩
    · have hw : w ∈ sC A ++ [(c, sN A 0 9)] := hw
      rcases List.mem_append.mp hw with hw | hw
      · exact h5 w (by rw [a7]; exact hw)
      · have : w = (c, sN A 0 9) := by simpa using hw
        rw [this]
        refine ⟨(vc_eq (a3.2.1 1 (by omega) (by omega)) c).mpr hv, ?_⟩
        show sN A 0 9 ≤ sN (brkA A c) 0 9
        rw [a3.1]
        exact Nat.le_refl _
    · show (sC A ++ [(c, sN A 0 9)]).length ≤ _
      rw [List.length_append, List.length_singleton, ← a7]
      show (sC (brkA A c)).length + 1 ≤ (sY (brkA A c)).countP k12 + (sQ (brkA A c)).length + tot (sN (brkA A c) 13) 4 + 1
      omega
  have ev : vc (setC (brkA A c) (sC A ++ [(c, sN A 0 9)])) c := (vc_eq (A := A) (a3.2.1 1 (by omega) (by omega)) c).mpr hv
  have b2 := b1.begs (k := 1) (c := c) (d := sN A 6 (c / 4)) (s' := 0) (by omega) (by omega) (fun _ => ev) (by omega) (by simp)
  rw [← setC_begW] at b2
  have ps : PS (brkA A c) (brkC A c) := by
    have := PS.beg (A := brkA A c) (k := 1) (c := c) hship
    exact this
  refine ⟨b2, a2.same (fun j h1 _ => begW_Nj (A := brkA A c) (k := 1) (c := c) (d := sN A 6 (c / 4)) (by omega)), a3.tr ps, ?_, ?_, ?_⟩
  · show sN (begW (brkA A c) 1 c (sN A 6 (c / 4))) 0 10 = _
    rw [begW_10, a4]
  · show sN (begW (brkA A c) 1 c (sN A 6 (c / 4))) 0 11 = _
    rw [begW_11, a5]
    rfl
  · show sQ (begW (brkA A c) 1 c (sN A 6 (c / 4))) = _
    rw [begW_Q, a6]
theorem brk_mend (hm : ¬ sN A 3 (c % 4) = 0) : brk A c = begW (brkA A c) 0 c (sN A 3 (c % 4)) := by
  unfold brk
  simp only
  rw [if_neg hm]
theorem brkA_C : sC (brkA A c) = sC A := by
  unfold brkA
  by_cases h0 : sN A 10 c = 0
  · rw [if_pos h0]
  · rw [if_neg h0]
theorem brk_send (hm : sN A 3 (c % 4) = 0) : brk A c = answ (sC (brkC A c)).length (brkC A c) (c % 4) := by
  unfold brk brkC
  simp only
  rw [if_pos hm, begW_C, brkA_C]
theorem brk_ok (hs : SetOk A) (h : DynOk A) (hv : vc A c) (hc : canBr A c) : SetOk (brk A c) ∧ DynOk (brk A c) ∧ PS A (brk A c) ∧ sN (brk A c) 0 10 ≤ sN A 0 10 + 190 ∧ sQ (brk A c) = sQ A ∧ sN (brk A c) 0 11 = sN A 0 11 := by
  have hc12 := vc_lt hs hv
  by_cases hm : sN A 3 (c % 4) = 0
  · rw [brk_send hm]
    obtain ⟨a1, a2, a3, a4, a5, a6⟩ := brkC_ok hs h hv hc
    obtain ⟨b1, b2, b3⟩ := answ_ok (sC (brkC A c)).length a2 a1 (p := c % 4) (by omega)
    obtain ⟨c1, c2, c3⟩ := ps_answ (sC (brkC A c)).length a2 a1 (p := c % 4) (by omega)
    have hcl := a1.cl
    exact ⟨b1, b2, a3.tr c1, by omega, c2.trans a6, c3.trans a5⟩
  · rw [brk_mend hm]
    obtain ⟨a1, a2, a3, a4, a5, a6, a7, a8⟩ := brkA_ok hs h hv hc
    have hm9 := (hs.2.1 (c % 4) (by omega)).2.1
    refine ⟨a2.same (fun j h1 _ => begW_Nj (by omega)), a1.beg (by omega) (by omega) (fun _ => (vc_eq (a3.2.1 1 (by omega) (by omega)) c).mpr hv) (by omega), a3.tr (PS.beg (by omega)), ?_, ?_, ?_⟩
    · rw [begW_10, a4]; omega
    · rw [begW_Q, a6]
    · rw [begW_11, a5]; rfl
theorem brk_rest (hs : SetOk A) (h : DynOk A) (hv : vc A c) (hc : canBr A c) (hr : Rest A) : Rest (brk A c) := by
  obtain ⟨a1, a2, a3, a4, a5, a6⟩ := brk_ok hs h hv hc
  refine ⟨?_, ?_⟩
  · rw [a3.1]
    exact a3.yd hr.1 (by omega)
  · unfold fullQ
    rw [a5, a6, a3.2.1 1 (by omega) (by omega)]
    exact hr.2
end BRK
section CDAY
variable {o : Nat} {I : MI} {L : ML} {A : St}
theorem c_goBy {Q : MI → ML → Prop} (h : CR o I L A) (hs : SetOk A) (hd : DynOk A) (h9 : sN A 0 9 < 10000) (hb : sN A 0 10 + 36000 < 2 ^ 30) (hQ : ∀ I' L', CR o I' L' (goDay A) → Fr o I L I' L' → Q I' L') : wp_X2_goBy o I L Q := by
  unfold wp_X2_goBy
  intro I1 e1
  have g9 : I o 9 = nI (sN A 0 9) := h.n (nd0 (by omega) (by omega))
  rw [g9, nI_1] at e1
  have h1 := h.putN (j := 0) (nd0 (by omega) (by omega)) e1
  have f1 : Fr o I L I1 L := Fr.uI (j := 0) e1 (by omega)
  obtain ⟨a1, a2⟩ := day_ok (d := sN A 0 9 + 1) hs hd (by omega) (by omega)
  have e10 : sN (setN A 0 9 (sN A 0 9 + 1)) 0 10 = sN A 0 10 := by simp [sN, setN, u2_at]
  refine ⟨185, ?_⟩
  rw [← nI_0]
  refine c_arr 184 0 _ I1 L h1 a1 a2 rfl (by omega) (fun I2 L2 h2 f2 => ?_)
  obtain ⟨b1, b2, b3⟩ := arr_ok 184 a1 a2
  exact c_lendAll h2 b1 b2 (by omega) (fun I3 L3 h3 f3 => hQ I3 L3 h3 ((f1.tr f2).tr f3))
theorem c_canBreak {c : Nat} {Q : Int32 → Prop} (h : CR o I L A) (hs : SetOk A) (hd : DynOk A) (hc : c < 16) (hQ : canBr A c → Q 1) (hQ0 : ¬ canBr A c → Q 0) : wp_X2_canBreak o I (nI c) Q := by
  unfold wp_X2_canBreak canBr at *
  have hh := (hd.1 c hc).1
  have hu := (hs.2.2.2.2.1 c hc).1
  have e7 : I (o + 7) c = nI (sN A 7 c) := h.n (nd7 hc)
  have e11 : I (o + 11) c = nI (sN A 11 c) := h.n (nd11 hc)
  rw [nI_m15, Nat.mod_eq_of_lt hc, ix_nI (by omega), e7, e11]
  refine ⟨vp_in_nI hc (by omega), vp_in_nI hc (by omega), fun z => hQ0 ?_, fun z => hQ ?_⟩
  · have := (nI_leI (by omega) (by omega)).mp z
    omega
  · rcases Nat.lt_or_ge (sN A 11 c) (sN A 7 c) with q | q
    · exact q
    · exact absurd (nI_le q (by omega)) z
theorem c_breakPiece {c : Nat} {Q : Int32 → MI → ML → Prop} (h : CR o I L A) (hs : SetOk A) (hd : DynOk A) (hv : vc A c) (hc : canBr A c) (hb : sN A 0 10 + 200 < 2 ^ 30) (hQ : ∀ I' L', CR o I' L' (brk A c) → Fr o I L I' L' → Q (nI (sN A 0 10)) I' L') : wp_X2_breakPiece o I L (nI c) Q := by
  have hc12 := vc_lt hs hv
  have hc16 : c < 16 := by omega
  have hhand := hand_le hd hc16
  obtain ⟨a1, a2, a3, a4, a5, a6, a7, a8⟩ := brkA_ok hs hd hv hc
  have hw := wlen hs hd
  have hw2 : tot (sN A 11) 16 < 72 := by
    have h1 := units72 hs
    have h2 := tot_upd (f := sN A 11) (g := fun k => if k = c then sN A 7 c else sN A 11 k) (i := c) (fun k hk => by simp [hk]) 16 hc16
    have h3 := tot_mono (f := fun k => if k = c then sN A 7 c else sN A 11 k) (g := sN A 7) 16 (fun k hk => by
      by_cases hkc : k = c
      · simp [hkc]
      · simp [hkc]; exact (hd.1 k hk).1)
    simp only [if_true] at h2
    unfold canBr at hc
    omega
  have hwf := hd.wf hs (by omega)
  have jn : ∀ (I1 : MI) (L1 : ML), CR o I1 L1 (brkA A c) → Fr o I L I1 L1 → jn_X2_breakPiece_85 o I1 L1 (nI c) (nI (c % 4)) (nI (sN A 0 10)) Q := by
    intro I1 L1 h1 f1
    have hp4 : c % 4 < 4 := Nat.mod_lt _ (by decide)
    have hm9 := (hs.2.1 (c % 4) hp4).2.1
    have hship9 := (hs.2.1 (c / 4) (by omega)).2.2.2.2
    have g3 : I1 (o + 3) (c % 4) = nI (sN A 3 (c % 4)) := by rw [h1.n (ndp (by omega) (by omega) hp4), a3.2.1 3 (by omega) (by omega)]
    have g6 : I1 (o + 6) (c / 4) = nI (sN A 6 (c / 4)) := by rw [h1.n (ndp (by omega) (by omega) (by omega)), a3.2.1 6 (by omega) (by omega)]
    have hyl := a1.yl
    have wf1 := a1.wf a2 (by omega)
    unfold jn_X2_breakPiece_85
    rw [ix_nI (by omega), g3]
    refine ⟨vp_in_nI hp4 (by omega), fun z => ?_, fun z => ⟨vp_in_nI hp4 (by omega), ?_⟩⟩
    · have z : sN A 3 (c % 4) = 0 := by
        rw [show (1 : Int32) = nI 1 from rfl] at z
        rcases Nat.eq_zero_or_pos (sN A 3 (c % 4)) with q | q
        · exact q
        · exact absurd z (nI_nlt q (by omega))
      refine s_base (by omega) ⟨vp_in_nI (by omega) (by omega), ?_⟩
      rw [ix_nI (by omega), g6, show (1 : Int32) = nI 1 from rfl]
      refine c_beginWay h1 wf1 (by omega) hc16 (by omega) (by omega) (fun I2 L2 h2 f2 => ?_)
      have g9 : I2 o 9 = nI (sN A 0 9) := by
        rw [show I2 o 9 = nI (sN (begW (brkA A c) 1 c (sN A 6 (c / 4))) 0 9) from h2.n (j := 0) (nd0 (by omega) (by omega)), begW_9, a3.1]
      have h13 := hd.2.2.2.2.2.2.2.2.2.2.2.2.1
      rw [g9, ← nI_0]
      refine s_of (n := 0) (m := 0) ⟨by omega, by omega, by omega, hc16⟩ ?_
      have hcl := a1.cl
      refine r_add h2.C (by rw [List.length_map, begW_C]; omega) (fun I3 L3 eI eL hr => ?_)
      have hL3 : ∀ k, k ≠ o + 18 + 1 → L3 k = L2 k := fun k hk => by rw [eL]; exact u2_ne hk
      have h3 : CR o I3 L3 (brkC A c) := h2.putC eI hL3 (by
        rw [begW_C, a7] at hr
        rw [List.map_append]
        exact hr)
      have f3 : Fr o I2 L2 I3 L3 := Fr.row (j := 18) (by omega) eI hL3
      obtain ⟨b1, b2, b3, b4, b5, b6⟩ := brkC_ok hs hd hv hc
      have hcl2 := b1.cl
      refine c_answerCalls h3 b2 b1 (by omega) hp4 (fun I4 L4 h4 f4 => hQ I4 L4 ?_ (((f1.tr f2).tr f3).tr f4))
      rw [brk_send z]
      exact h4
    · have z : ¬ sN A 3 (c % 4) = 0 := fun q => z (by rw [q]; decide)
      rw [← nI_0]
      refine c_beginWay h1 wf1 (by omega) hc16 (by omega) (by omega) (fun I2 L2 h2 f2 => hQ I2 L2 ?_ (f1.tr f2))
      rw [brk_mend z]
      exact h2
  unfold wp_X2_breakPiece
  have hcc : nI c &&& 15 = nI c := by rw [nI_m15, Nat.mod_eq_of_lt hc16]
  have hin : vp_in (nI c) 16 := vp_in_nI hc16 (by omega)
  have g10 : I o 10 = nI (sN A 0 10) := h.n (nd0 (by omega) (by omega))
  rw [hcc, g10, ix_nI (by omega)]
  refine s_part (fun I2 e2 => ⟨hin, fun z => ⟨hin, hin, fun I7 e7 => ?_⟩, fun z => ⟨hin, hin, fun I27 e27 I28 e28 => ?_⟩⟩)
  · rw [h.t0 (i := 12) (by omega) (by omega)] at e2
    have h2 := h.putT0 (i := 12) (by omega) (by omega) e2
    have gh : I2 (o + 10) c = nI (sN A 10 c) := h2.n (nd10 hc16)
    rw [gh] at z
    have z : sN A 10 c = 0 := by
      have := (nI_leI (b := 0) (by omega) (by omega)).mp z
      omega
    have g11 : I2 (o + 11) c = nI (sN A 11 c) := h2.n (nd11 hc16)
    rw [g11, nI_1] at e7
    have h7 := h2.putN (nd11 hc16) e7
    have g9 : I7 o 9 = nI (sN A 0 9) := by
      rw [show I7 o 9 = nI _ from h7.n (j := 0) (nd0 (by omega) (by omega))]
      congr 1
    have h13 := hd.2.2.2.2.2.2.2.2.2.2.2.2.1
    rw [g9, ← nI_0]
    refine s_of (n := 0) (m := 0) ⟨by omega, by omega, by omega, hc16⟩ ?_
    refine r_add h7.W (by rw [List.length_map]; show (sW A).length < 72; omega) (fun I3 L3 eI eL hr => ?_)
    have hL3 : ∀ k, k ≠ o + 16 + 1 → L3 k = L k := fun k hk => by rw [eL]; exact u2_ne hk
    refine jn I3 L3 ?_ (((Fr.uI (L := L) (j := 0) e2 (by omega)).tr (Fr.uI (L := L) (j := 11) e7 (by omega))).tr (Fr.row (j := 16) (by omega) eI hL3))
    unfold brkA
    rw [if_pos z]
    exact h7.putW eI hL3 (by rw [List.map_append]; exact hr)
  · rw [h.t0 (i := 12) (by omega) (by omega)] at e2
    have h2 := h.putT0 (i := 12) (by omega) (by omega) e2
    have gh : I2 (o + 10) c = nI (sN A 10 c) := h2.n (nd10 hc16)
    rw [gh] at z e27
    have z : ¬ sN A 10 c = 0 := fun q => z (by rw [q]; decide)
    have e27' : I27 = u2 I2 (o + 10) c (nI (sN A 10 c - 1)) := by
      rw [e27]
      congr 1
      obtain ⟨r, hr⟩ : ∃ r, sN A 10 c = r + 1 := ⟨sN A 10 c - 1, by omega⟩
      rw [hr, nI_pred]
      rfl
    have h27 := h2.putN (nd10 hc16) e27'
    have g13 : I27 o 13 = sT A 0 13 := by
      rw [h27.t0 (i := 13) (by omega) (by omega)]
      simp [sT, setT, u2_at]
    rw [g13] at e28
    refine jn I28 L ?_ (((Fr.uI (L := L) (j := 0) e2 (by omega)).tr (Fr.uI (L := L) (j := 10) e27' (by omega))).tr (Fr.uI (L := L) (j := 0) e28 (by omega)))
    unfold brkA
    rw [if_neg z]
    exact h27.putT0 (i := 13) (by omega) (by omega) e28
theorem c_haveBenches {n : Nat} {Q : MI → ML → Prop} (h : CR o I L A) (hs : SetOk (setN A 1 2 n)) (hd : DynOk (setN A 1 2 n)) (hb : sN A 0 10 + 3 < 2 ^ 30) (hQ : ∀ I' L', CR o I' L' (fill 3 (setN A 1 2 n)) → Fr o I L I' L' → Q I' L') : wp_X2_haveBenches o I L (nI n) Q := by
  unfold wp_X2_haveBenches
  intro I1 e1
  have h1 := h.putN (nd1 (by omega)) e1
  exact c_fillBenches h1 hs hd (by
    have : sN (setN A 1 2 n) 0 10 = sN A 0 10 := by simp [sN, setN, u2_at]
    omega) (fun I2 L2 h2 f2 => hQ I2 L2 h2 ((Fr.uI (j := 1) e1 (by omega)).tr f2))
end CDAY
