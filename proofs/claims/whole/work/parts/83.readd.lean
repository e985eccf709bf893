/-! what a text tells keeps its bounds; the class reads lines and the whole -/
theorem setN_at {B : St} {j i v j' i' : Nat} : sN (setN B j i v) j' i' = if j' = j ∧ i' = i then v else sN B j' i' := u2_at _ _ _ _ _ _
theorem SetOk.set1 {B : St} {i v : Nat} (hs : SetOk B) (h2 : i = 2 → 1 ≤ v ∧ v ≤ 3) (h3 : i = 3 → v ≤ 4) (h4 : i = 4 → v ≤ 1) (hi : 2 ≤ i) : SetOk (setN B 1 i v) := by
  obtain ⟨⟨s1, s2, s3, s4, s5, s6⟩, s7, s8, s9, s10, s11, s12, s13⟩ := hs
  have e0 : sN (setN B 1 i v) 1 0 = sN B 1 0 := by rw [setN_at, if_neg (by omega)]
  have e1 : sN (setN B 1 i v) 1 1 = sN B 1 1 := by rw [setN_at, if_neg (by omega)]
  have ej : ∀ j, j ≠ 1 → sN (setN B 1 i v) j = sN B j := fun j hj => setN_ne hj
  unfold SetOk vc at *
  rw [e0, e1, ej 2 (by omega), ej 3 (by omega), ej 4 (by omega), ej 5 (by omega), ej 6 (by omega), ej 7 (by omega), ej 8 (by omega), ej 9 (by omega)]
  refine ⟨⟨s1, s2, ?_, ?_, ?_, ?_⟩, s7, s8, s9, s10, s11, s12, s13⟩
  · rw [setN_at]
    by_cases q : 1 = 1 ∧ 2 = i
    · rw [if_pos q]; exact (h2 (by omega)).1
    · rw [if_neg q]; exact s3
  · rw [setN_at]
    by_cases q : 1 = 1 ∧ 2 = i
    · rw [if_pos q]; exact (h2 (by omega)).2
    · rw [if_neg q]; exact s4
  · rw [setN_at]
    by_cases q : 1 = 1 ∧ 3 = i
    · rw [if_pos q]; exact h3 (by omega)
    · rw [if_neg q]; exact s5
  · rw [setN_at]
    by_cases q : 1 = 1 ∧ 4 = i
    · rw [if_pos q]; exact h4 (by omega)
    · rw [if_neg q]; exact s6
def St9 (B : St) : Prop := ∀ c, c < 16 → sN B 9 c ≤ 9
theorem takeW_ok {B : St} {w : Nat} {v : List Nat} (hs : SetOk B) (h9 : St9 B) (hw : w < 7) (hm : many B w = false) (hv : ∀ q, q < numN w → (bd B (fstN w + q)).1 ≤ v.getD q 0 ∧ v.getD q 0 < (bd B (fstN w + q)).2) : SetOk (takeW B w v) ∧ St9 (takeW B w v) := by
  have hm := of_decide_eq_false hm
  have hs0 := hs
  obtain ⟨⟨s1, s2, s3, s4, s5, s6⟩, s7, s8, s9, s10, s11, s12, s13⟩ := hs
  obtain rfl | rfl | rfl | rfl | rfl | rfl | rfl : w = 0 ∨ w = 1 ∨ w = 2 ∨ w = 3 ∨ w = 4 ∨ w = 5 ∨ w = 6 := by omega
  · have h0 : 1 ≤ v.getD 0 0 ∧ v.getD 0 0 < 4 := hv 0 (by decide)
    exact ⟨SetOk.set1 hs0 (fun _ => by omega) (fun g => by omega) (fun g => by omega) (by omega), fun c hc => by rw [show takeW B 0 v = setN B 1 2 (v.getD 0 0) from rfl, setN_ne (by omega)]; exact h9 c hc⟩
  · have h0 : 0 ≤ v.getD 0 0 ∧ v.getD 0 0 < 5 := hv 0 (by decide)
    exact ⟨SetOk.set1 hs0 (fun g => by omega) (fun _ => by omega) (fun g => by omega) (by omega), fun c hc => by rw [show takeW B 1 v = setN B 1 3 (v.getD 0 0) from rfl, setN_ne (by omega)]; exact h9 c hc⟩
  · have h0 : 0 ≤ v.getD 0 0 ∧ v.getD 0 0 < 2 := hv 0 (by decide)
    exact ⟨SetOk.set1 hs0 (fun g => by omega) (fun g => by omega) (fun _ => by omega) (by omega), fun c hc => by rw [show takeW B 2 v = setN B 1 4 (v.getD 0 0) from rfl, setN_ne (by omega)]; exact h9 c hc⟩
  · have h0 : 1 ≤ v.getD 0 0 ∧ v.getD 0 0 < 31 := hv 0 (by decide)
    have h1 : 0 ≤ v.getD 1 0 ∧ v.getD 1 0 < 10 := hv 1 (by decide)
    have h2 : 1 ≤ v.getD 2 0 ∧ v.getD 2 0 < 10 := hv 2 (by decide)
    have hP : sN B 1 0 ≤ 2 := by omega
    rw [show takeW B 3 v = setN (setN (setN (setN B 2 (sN B 1 0) (v.getD 0 0)) 3 (sN B 1 0) (v.getD 1 0)) 4 (sN B 1 0) (v.getD 2 0)) 1 0 (sN B 1 0 + 1) from rfl]
    generalize v.getD 0 0 = a at *
    generalize v.getD 1 0 = b at *
    generalize v.getD 2 0 = d at *
    refine ⟨⟨⟨?_, ?_, ?_, ?_, ?_, ?_⟩, fun p hp => ?_, fun p hp => ?_, fun p hp => ?_, fun c hc => ?_, fun c hc hn => ?_, fun p hp hq => ?_, fun p hp hq => ?_⟩, fun c hc => ?_⟩
    · simp [setN_at]; omega
    · simp [setN_at]; exact s2
    · simp [setN_at]; exact s3
    · simp [setN_at]; exact s4
    · simp [setN_at]; exact s5
    · simp [setN_at]; exact s6
    · have := s7 p hp
      simp [setN_at]
      by_cases q : p = sN B 1 0
      · simp [q]; rw [q] at this; omega
      · simp [q]; exact this
    · simp [setN_at] at hp ⊢
      by_cases q : p = sN B 1 0
      · simp [q]; omega
      · simp [q]; exact s8 p (by omega)
    · simp [setN_at] at hp ⊢; exact s9 p hp
    · simp [setN_at]; exact s10 c hc
    · simp [setN_at]
      refine s11 c hc (fun g => hn ?_)
      unfold vc at g ⊢
      simp [setN_at]
      omega
    · simp [setN_at] at hq ⊢
      have := s12 p hp (by omega)
      simp [show ¬ p = sN B 1 0 by omega]
      exact this
    · simp [setN_at] at hq ⊢
      exact s13 p hp hq
    · simp [setN_at]; exact h9 c hc
  · have h0 : 1 ≤ v.getD 0 0 ∧ v.getD 0 0 < 10 := hv 0 (by decide)
    have hP : sN B 1 1 ≤ 2 := by omega
    rw [show takeW B 4 v = setN (setN B 6 (sN B 1 1) (v.getD 0 0)) 1 1 (sN B 1 1 + 1) from rfl]
    generalize v.getD 0 0 = a at *
    refine ⟨⟨⟨?_, ?_, ?_, ?_, ?_, ?_⟩, fun p hp => ?_, fun p hp => ?_, fun p hp => ?_, fun c hc => ?_, fun c hc hn => ?_, fun p hp hq => ?_, fun p hp hq => ?_⟩, fun c hc => ?_⟩
    · simp [setN_at]; exact s1
    · simp [setN_at]; omega
    · simp [setN_at]; exact s3
    · simp [setN_at]; exact s4
    · simp [setN_at]; exact s5
    · simp [setN_at]; exact s6
    · have := s7 p hp
      simp [setN_at]
      by_cases q : p = sN B 1 1
      · simp [q]; rw [q] at this; omega
      · simp [q]; exact this
    · simp [setN_at] at hp ⊢
      exact s8 p hp
    · simp [setN_at] at hp ⊢
      by_cases q : p = sN B 1 1
      · simp [q]; omega
      · simp [q]; exact s9 p (by omega)
    · simp [setN_at]; exact s10 c hc
    · simp [setN_at]
      refine s11 c hc (fun g => hn ?_)
      unfold vc at g ⊢
      simp [setN_at]
      omega
    · simp [setN_at] at hq ⊢
      exact s12 p hp hq
    · simp [setN_at] at hq ⊢
      have := s13 p hp (by omega)
      simp [show ¬ p = sN B 1 1 by omega]
      exact this
    · simp [setN_at]; exact h9 c hc
  · have h0 : 0 ≤ v.getD 0 0 ∧ v.getD 0 0 < sN B 1 1 := hv 0 (by decide)
    have h1 : 0 ≤ v.getD 1 0 ∧ v.getD 1 0 < sN B 1 0 := hv 1 (by decide)
    have h2 : 0 ≤ v.getD 2 0 ∧ v.getD 2 0 < 9 := hv 2 (by decide)
    have h3 : 0 ≤ v.getD 3 0 ∧ v.getD 3 0 < 13 := hv 3 (by decide)
    have h4 : 0 ≤ v.getD 4 0 ∧ v.getD 4 0 < 10 := hv 4 (by decide)
    rw [show takeW B 5 v = setN (setN (setN B 7 (4 * v.getD 0 0 + v.getD 1 0) (v.getD 2 0)) 8 (4 * v.getD 0 0 + v.getD 1 0) (v.getD 3 0)) 9 (4 * v.getD 0 0 + v.getD 1 0) (v.getD 4 0) from rfl]
    generalize v.getD 0 0 = a at *
    generalize v.getD 1 0 = b at *
    generalize v.getD 2 0 = d at *
    generalize v.getD 3 0 = e at *
    generalize v.getD 4 0 = f at *
    refine ⟨⟨⟨?_, ?_, ?_, ?_, ?_, ?_⟩, fun p hp => ?_, fun p hp => ?_, fun p hp => ?_, fun c hc => ?_, fun c hc hn => ?_, fun p hp hq => ?_, fun p hp hq => ?_⟩, fun c hc => ?_⟩
    · simp [setN_at]; exact s1
    · simp [setN_at]; exact s2
    · simp [setN_at]; exact s3
    · simp [setN_at]; exact s4
    · simp [setN_at]; exact s5
    · simp [setN_at]; exact s6
    · simp [setN_at]; exact s7 p hp
    · simp [setN_at] at hp ⊢; exact s8 p hp
    · simp [setN_at] at hp ⊢; exact s9 p hp
    · have := s10 c hc
      simp [setN_at]
      by_cases q : c = 4 * a + b
      · simp [q]; omega
      · simp [q]; exact this
    · have hn' : ¬ vc B c := fun g => hn (by unfold vc at g ⊢; simp [setN_at]; exact g)
      have := s11 c hc hn'
      simp [setN_at]
      have q : ¬ c = 4 * a + b := fun g => hn' (by unfold vc; omega)
      simp [q]
      exact this
    · simp [setN_at] at hq ⊢; exact s12 p hp hq
    · simp [setN_at] at hq ⊢; exact s13 p hp hq
    · have := h9 c hc
      simp [setN_at]
      by_cases q : c = 4 * a + b
      · simp [q]; omega
      · simp [q]; exact this
  · have h0 : 0 ≤ v.getD 0 0 ∧ v.getD 0 0 < sN B 1 0 := hv 0 (by decide)
    have h1 : 0 ≤ v.getD 1 0 ∧ v.getD 1 0 < 10 := hv 1 (by decide)
    rw [show takeW B 6 v = setN B 5 (v.getD 0 0) (v.getD 1 0) from rfl]
    generalize v.getD 0 0 = a at *
    generalize v.getD 1 0 = b at *
    refine ⟨⟨⟨?_, ?_, ?_, ?_, ?_, ?_⟩, fun p hp => ?_, fun p hp => ?_, fun p hp => ?_, fun c hc => ?_, fun c hc hn => ?_, fun p hp hq => ?_, fun p hp hq => ?_⟩, fun c hc => ?_⟩
    · simp [setN_at]; exact s1
    · simp [setN_at]; exact s2
    · simp [setN_at]; exact s3
    · simp [setN_at]; exact s4
    · simp [setN_at]; exact s5
    · simp [setN_at]; exact s6
    · have := s7 p hp
      simp [setN_at]
      by_cases q : p = a
      · simp [q]; rw [q] at this; omega
      · simp [q]; exact this
    · simp [setN_at] at hp ⊢; exact s8 p hp
    · simp [setN_at] at hp ⊢; exact s9 p hp
    · simp [setN_at]; exact s10 c hc
    · have hn' : ¬ vc B c := fun g => hn (by unfold vc at g ⊢; simp [setN_at]; exact g)
      simp [setN_at]
      exact s11 c hc hn'
    · simp [setN_at] at hq ⊢
      have := s12 p hp hq
      simp [show ¬ p = a by omega]
      exact this
    · simp [setN_at] at hq ⊢; exact s13 p hp hq
    · simp [setN_at]; exact h9 c hc
theorem pLine_ok {t : Nat → Nat} {n : Nat} {B : St} {s : Nat} {r : St × Nat} (hn : s ≤ n) (hs : SetOk B) (h9 : St9 B) (h : pLine t n B s = .inr r) : SetOk r.1 ∧ St9 r.1 := by
  unfold pLine at h
  cases hw : wdF t s (skL t n s) 7 0 with
  | none => rw [hw] at h; cases h
  | some w =>
    rw [hw] at h
    simp only at h
    cases hm : many B w with
    | true => rw [hm] at h; simp only [if_true] at h; cases h
    | false =>
      rw [hm] at h
      simp only [Bool.false_eq_true, if_false] at h
      cases hp : pNums t n B (numN w) (fstN w) (skL t n s) [] with
      | inl f => rw [hp] at h; cases h
      | inr q =>
        rw [hp] at h
        simp only at h
        have l := skL_f (t := t) hn
        obtain ⟨a1, a2, a3, a4, a5⟩ := pNums_len _ _ _ _ q l.2.1 hp
        cases hz : isS t n (skG t n q.2) with
        | false => rw [hz] at h; simp only [Bool.false_eq_true, if_false] at h; cases h
        | true =>
          rw [hz] at h
          simp only [if_true] at h
          cases h
          have := wdF_lt _ _ _ hw
          refine takeW_ok hs h9 (by omega) hm (fun k hk => ?_)
          have := a5 k hk
          rw [List.length_nil, Nat.zero_add] at this
          exact this
def B0 : St := (fun j i => if j = 1 ∧ i = 2 then 1 else 0, fun _ _ => 0, [], [], [], [])
theorem B0_ok : SetOk B0 ∧ St9 B0 := by
  refine ⟨⟨⟨by decide, by decide, by decide, by decide, by decide, by decide⟩, fun p hp => ?_, fun p hp => ?_, fun p hp => ?_, fun c hc => ?_, fun c hc _ => ?_, fun p hp _ => ?_, fun p hp _ => ?_⟩, fun c hc => ?_⟩
  · simp [B0, sN]
  · exact absurd hp (by simp [B0, sN])
  · exact absurd hp (by simp [B0, sN])
  · simp [B0, sN]
  · simp [B0, sN]
  · simp [B0, sN]
  · simp [B0, sN]
  · simp [B0, sN]
theorem pAll_ok {t : Nat → Nat} {n : Nat} : ∀ (f : Nat) (B : St) (i : Nat) (R : St), i ≤ n → SetOk B → St9 B → pAll t n f B i = .inr R → SetOk R ∧ St9 R
  | 0, B, i, R, hi, hs, h9, h => by cases h; exact ⟨hs, h9⟩
  | f + 1, B, i, R, hi, hs, h9, h => by
    have g := skG_f (t := t) hi
    unfold pAll at h
    by_cases hz : skG t n i = n
    · rw [if_pos hz] at h; cases h; exact ⟨hs, h9⟩
    · rw [if_neg hz] at h
      cases hl : pLine t n B (skG t n i) with
      | inl q => rw [hl] at h; cases h
      | inr r =>
        rw [hl] at h
        simp only at h
        obtain ⟨a, b⟩ := pLine_ok g.2.1 hs h9 hl
        have c := pLine_adv g.2.1 hl
        exact pAll_ok f r.1 r.2 R c.2 a b h
