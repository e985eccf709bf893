theorem fidx_map {α β : Type} (f : α → β) (P : β → Bool) : ∀ (xs : List α) (i k : Nat), fidx P (xs.map f) i k = fidx (fun a => P (f a)) xs i k
  | [], _, _ => rfl
  | x :: xs, i, k => by
    rw [List.map_cons, fidx_cons, fidx_cons]
    cases k with
    | zero => simp only [fidx_map f P xs]
    | succ k => simp only [fidx_map f P xs]
theorem fidx_congr {α : Type} {P P' : α → Bool} : ∀ (xs : List α) (i k : Nat), (∀ x ∈ xs, P x = P' x) → fidx P xs i k = fidx P' xs i k
  | [], _, _, _ => rfl
  | x :: xs, i, k, h => by
    rw [fidx_cons, fidx_cons, h x List.mem_cons_self]
    have ih := fun i k => fidx_congr xs i k (fun y hy => h y (List.mem_cons_of_mem _ hy))
    cases k with
    | zero => simp only [ih]
    | succ k => simp only [ih]
theorem fidx0_some {α : Type} {P : α → Bool} : ∀ (xs : List α) (i j : Nat), fidx P xs i 0 = some j → ∃ (q : Nat) (x : α), j = i + q ∧ xs[q]? = some x ∧ P x = true ∧ ∀ (r : Nat) (y : α), r < q → xs[r]? = some y → P y = false
  | [], i, j, h => by cases h
  | x :: xs, i, j, h => by
    rw [fidx_cons] at h
    cases hp : P x with
    | true =>
      simp only [hp, if_true] at h
      cases h
      exact ⟨0, x, by omega, rfl, hp, fun r y hr => absurd hr (by omega)⟩
    | false =>
      simp only [hp, Bool.false_eq_true, if_false] at h
      obtain ⟨q, z, h1, h2, h3, h4⟩ := fidx0_some xs (i + 1) j h
      refine ⟨q + 1, z, by omega, by simpa using h2, h3, fun r y hr hy => ?_⟩
      cases r with
      | zero => simp at hy; rw [← hy]; exact hp
      | succ r => exact h4 r y (by omega) (by simpa using hy)
theorem fidx0_none {α : Type} {P : α → Bool} : ∀ (xs : List α) (i : Nat), fidx P xs i 0 = none → ∀ y ∈ xs, P y = false
  | [], _, _ => fun y hy => by cases hy
  | x :: xs, i, h => by
    rw [fidx_cons] at h
    cases hp : P x with
    | true => simp [hp] at h
    | false =>
      simp only [hp, Bool.false_eq_true, if_false] at h
      intro y hy
      rcases List.mem_cons.mp hy with rfl | hy
      · exact hp
      · exact fidx0_none xs (i + 1) h y hy
theorem m3 {d n m c p : Nat} (h : okE d n m c) (hp : p < 4) : (lg_cmp (enc d n m c &&& (3 : Int32).toInt64) (nI p).toInt64 = 0) ↔ c % 4 = p := by
  have h4 := h.2.2.2
  rw [show (3 : Int32) = nI 3 from rfl, enc_mask h (Or.inl rfl), nI_l (by omega), cmp_lN (Nat.lt_of_le_of_lt Nat.and_le_left (by omega)) (by omega)]
  rw [show c &&& 3 = c % 4 from Nat.and_two_pow_sub_one_eq_mod c 2]
theorem m15 {d n m c p : Nat} (h : okE d n m c) (hp : p < 16) : (lg_cmp (enc d n m c &&& (15 : Int32).toInt64) (nI p).toInt64 = 0) ↔ c = p := by
  have h4 := h.2.2.2
  rw [show (15 : Int32) = nI 15 from rfl, enc_mask h (Or.inr (Or.inr rfl)), nI_l (by omega), cmp_lN (Nat.lt_of_le_of_lt Nat.and_le_left (by omega)) (by omega)]
  rw [show c &&& 15 = c % 16 from Nat.and_two_pow_sub_one_eq_mod c 4, Nat.mod_eq_of_lt h4]
theorem m12 {d n m c p : Nat} (h : okE d n m c) (hp : p < 16) : (lg_cmp (enc d n m c &&& (12 : Int32).toInt64) (nI p).toInt64 = 0) ↔ 4 * (c / 4) = p := by
  have h4 := h.2.2.2
  have h9 : ∀ c, c < 16 → c &&& 12 = 4 * (c / 4) := by decide +kernel
  rw [show (12 : Int32) = nI 12 from rfl, enc_mask h (Or.inr (Or.inl rfl)), nI_l (by omega), cmp_lN (Nat.lt_of_le_of_lt Nat.and_le_left (by omega)) (by omega), h9 c h4]
-- the next call
theorem nxC_cons (h : Nat → Nat) (p : Nat) (c : Nat × Nat) (cs : List (Nat × Nat)) (i : Nat) (b : Option (Nat × Nat)) : nxC h p (c :: cs) i b = nxC h p cs (i + 1) (if c.1 % 4 = p then (match b with
    | none => some (i, h c.1)
    | some jm => if jm.2 < h c.1 then some (i, h c.1) else some jm) else b) := rfl
theorem nxC_skip (h : Nat → Nat) (p : Nat) (cs : List (Nat × Nat)) : ∀ (i : Nat), i ≤ cs.length → (∀ (k : Nat) (c : Nat × Nat), k < i → cs[k]? = some c → ¬ c.1 % 4 = p) → nxC h p cs 0 none = nxC h p (cs.drop i) i none
  | 0, _, _ => by rw [List.drop_zero]
  | i + 1, hi, hn => by
    rw [nxC_skip h p cs i (by omega) (fun k c hk hc => hn k c (by omega) hc)]
    have hil : i < cs.length := by omega
    rw [List.drop_eq_getElem_cons hil, nxC_cons, if_neg (hn i cs[i] (by omega) (List.getElem?_eq_getElem hil))]
theorem nxC_zero (p : Nat) : ∀ (cs : List (Nat × Nat)) (i : Nat) (q : Nat), nxC (fun _ => 0) p cs i (some (q, 0)) = some (q, 0)
  | [], _, _ => rfl
  | c :: cs, i, q => by
    rw [nxC_cons]
    by_cases hc : c.1 % 4 = p
    · rw [if_pos hc]
      exact nxC_zero p cs (i + 1) q
    · rw [if_neg hc]
      exact nxC_zero p cs (i + 1) q
section ANS
variable {o : Nat} {I : MI} {L : ML} {A : St}
theorem c_callToAnswer {p : Nat} {Q : Int32 → Prop} (h : CR o I L A) (hs : SetOk A) (hw : Wf A) (hb : ∀ c, c < 16 → sN A 11 c ≤ 8) (hp : p < 4) (hQ : ∀ k, callNext A p = some k → Q (nI k)) (hQ0 : callNext A p = none → Q (-1)) : wp_X2_callToAnswer o I L (nI p) Q := by
  have hz := h.C.sz
  rw [List.length_map] at hz
  have hC8 := h.C.2.1
  rw [List.length_map] at hC8
  unfold wp_X2_callToAnswer
  have hPm : ∀ x ∈ sC A, (fun c : Nat × Nat => decide (lg_cmp (encC c &&& (3 : Int32).toInt64) (nI p).toInt64 = 0)) x = (fun c : Nat × Nat => decide (c.1 % 4 = p)) x := by
    intro x hx
    show decide _ = decide _
    exact decide_eq_decide.mpr (m3 (okC hw hx) hp)
  have hfe : fidx (fun x => decide (lg_cmp (x &&& (3 : Int32).toInt64) (nI p).toInt64 = 0)) ((sC A).map encC) 0 0 = fidx (fun c : Nat × Nat => decide (c.1 % 4 = p)) (sC A) 0 0 := by
    rw [fidx_map]
    exact fidx_congr _ _ _ hPm
  refine r_findAt (k := 0) (fun x => decide (lg_cmp (x &&& (3 : Int32).toInt64) (nI p).toInt64 = 0)) (by omega) (fun x _ => by simp) h.C (fun j hj => ?_) (fun hn => ?_)
  · rw [hfe] at hj
    obtain ⟨q, c, e1, e2, e3, e4⟩ := fidx0_some _ _ _ hj
    have e1 : j = q := by omega
    subst e1
    have hjl := lt_of_get e2
    have hne : ¬ nI j = -1 := fun z => by
      have := nI_pos' (n := j) (by omega)
      rw [z] at this
      exact absurd this (by decide)
    refine ⟨fun z => absurd z hne, fun _ => ?_⟩
    have hsk := nxC_skip (hf A) p (sC A) j (by omega) (fun k c hk hc => by simpa using e4 k c hk hc)
    have hdr : (sC A).drop j = c :: (sC A).drop (j + 1) := by
      rw [List.drop_eq_getElem_cons hjl]
      rw [List.getElem?_eq_getElem hjl] at e2
      cases e2
      rfl
    have hcp : c.1 % 4 = p := by simpa using e3
    rw [hdr, nxC_cons, if_pos hcp] at hsk
    have e14 : I (o + 1) 4 = nI (sN A 1 4) := h.n (Or.inr (Or.inl ⟨rfl, by omega⟩))
    have hr1 := hs.1.2.2.2.2.2
    rw [e14]
    have hz0 : nI (sN A 1 4) = 0 ↔ sN A 1 4 = 0 := by rw [← nI_0]; exact nI_eq (by omega) (by omega)
    refine ⟨fun hr => ?_, fun hr => ?_⟩
    · -- rule 1
      have hr : sN A 1 4 ≠ 0 := fun z => hr (hz0.mpr z)
      have hhf : hf A = sN A 11 := by unfold hf; rw [if_neg hr]
      have key : ∀ (m i f : Nat) (cf : Nat × Nat), i + m = (sC A).length → (sC A)[f]? = some cf → nxC (hf A) p (sC A) 0 none = nxC (hf A) p ((sC A).drop i) i (some (f, hf A cf.1)) → ∃ n, lp_X2_callToAnswer_32 o I L (nI p) Q n (nI f) (nI i) := by
        intro m
        induction m with
        | zero =>
          intro i f cf hi hf0 he
          have hi : i = (sC A).length := by omega
          subst hi
          rw [List.drop_length] at he
          refine ⟨1, ?_⟩
          unfold lp_X2_callToAnswer_32
          rw [h.C.1, List.length_map]
          refine ⟨fun _ => hQ f ?_, fun z => absurd (nI_le (Nat.le_refl _) hz) z⟩
          unfold callNext
          rw [he]
          rfl
        | succ m ih =>
          intro i f cf hi hf0 he
          have hil : i < (sC A).length := by omega
          have hx : (sC A)[i]? = some (sC A)[i] := List.getElem?_eq_getElem hil
          have hmem : (sC A)[i] ∈ sC A := List.getElem_mem hil
          have hmf : cf ∈ sC A := List.mem_of_getElem? hf0
          rw [List.drop_eq_getElem_cons hil, nxC_cons] at he
          have hci := (hw.2.2.2.1 _ hmem).1
          have hcf := (hw.2.2.2.1 _ hmf).1
          have eA : (sC A)[i].1 < 16 := hci
          have hat1 : ∀ {Q2 : Int64 → Prop}, Q2 (encC (sC A)[i]) → wp_X4_at (o + 18) 184 L (nI i) Q2 := fun hq => r_at h.C (by rw [List.getElem?_map, hx]; rfl) hq
          have hat2 : ∀ {Q2 : Int64 → Prop}, Q2 (encC cf) → wp_X4_at (o + 18) 184 L (nI f) Q2 := fun hq => r_at h.C (by rw [List.getElem?_map, hf0]; rfl) hq
          by_cases hpi : (sC A)[i].1 % 4 = p
          · rw [if_pos hpi] at he
            simp only at he
            by_cases hgt : hf A cf.1 < hf A (sC A)[i].1
            · rw [if_pos hgt] at he
              obtain ⟨n, hn⟩ := ih (i + 1) i (sC A)[i] (by omega) hx he
              refine ⟨n + 1, ?_⟩
              unfold lp_X2_callToAnswer_32
              rw [h.C.1, List.length_map]
              refine ⟨fun z => absurd z (nI_ge hil hz), fun _ => hat1 (s_place (okC hw hmem) (s_part ?_))⟩
              rw [hpi]
              refine ⟨fun z => absurd rfl z, fun _ => ⟨vp_in_nI (by omega) (by omega), hat2 (s_place (okC hw hmf) ⟨vp_in_nI (by omega) (by omega), ?_⟩)⟩⟩
              rw [ix_nI (by omega), ix_nI (by omega), h.n (j := 11) (i := (sC A)[i].1) (nd11 eA), h.n (j := 11) (i := cf.1) (nd11 hcf)]
              rw [hhf] at hgt
              have := hb _ eA
              refine ⟨fun z => absurd z (nI_ge hgt (by omega)), fun _ => ?_⟩
              unfold jn_X2_callToAnswer_93
              rw [nI_1]
              exact hn
            · rw [if_neg hgt] at he
              obtain ⟨n, hn⟩ := ih (i + 1) f cf (by omega) hf0 he
              refine ⟨n + 1, ?_⟩
              unfold lp_X2_callToAnswer_32
              rw [h.C.1, List.length_map]
              refine ⟨fun z => absurd z (nI_ge hil hz), fun _ => hat1 (s_place (okC hw hmem) (s_part ?_))⟩
              rw [hpi]
              refine ⟨fun z => absurd rfl z, fun _ => ⟨vp_in_nI (by omega) (by omega), hat2 (s_place (okC hw hmf) ⟨vp_in_nI (by omega) (by omega), ?_⟩)⟩⟩
              rw [ix_nI (by omega), ix_nI (by omega), h.n (j := 11) (i := (sC A)[i].1) (nd11 eA), h.n (j := 11) (i := cf.1) (nd11 hcf)]
              rw [hhf] at hgt
              have := hb _ eA
              have := hb _ hcf
              refine ⟨fun _ => ?_, fun z => absurd (nI_le (by omega) (by omega)) z⟩
              unfold jn_X2_callToAnswer_93
              rw [nI_1]
              exact hn
          · rw [if_neg hpi] at he
            obtain ⟨n, hn⟩ := ih (i + 1) f cf (by omega) hf0 he
            refine ⟨n + 1, ?_⟩
            unfold lp_X2_callToAnswer_32
            rw [h.C.1, List.length_map]
            refine ⟨fun z => absurd z (nI_ge hil hz), fun _ => hat1 (s_place (okC hw hmem) (s_part ?_))⟩
            refine ⟨fun _ => ?_, fun z => absurd ((nI_eq (by omega) (by omega)).mp z) hpi⟩
            unfold jn_X2_callToAnswer_93
            rw [nI_1]
            exact hn
      have := key ((sC A).length - (j + 1)) (j + 1) j c (by omega) e2 (by rw [hsk])
      rw [← nI_1] at this
      exact this
    · -- rule 0
      have hr : sN A 1 4 = 0 := hz0.mp hr
      have hhf : hf A = (fun _ => 0) := by unfold hf; rw [if_pos hr]
      refine hQ j ?_
      unfold callNext
      rw [hsk]
      simp only [hhf]
      rw [nxC_zero]
      rfl
  · rw [hfe] at hn
    have hno := fidx0_none _ _ hn
    refine ⟨fun _ => hQ0 ?_, fun z => absurd rfl z⟩
    unfold callNext
    rw [nxC_skip (hf A) p (sC A) (sC A).length (Nat.le_refl _) (fun k c hk hc => by simpa using hno c (List.mem_of_getElem? hc)), List.drop_length]
    rfl
end ANS
