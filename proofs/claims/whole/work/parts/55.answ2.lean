theorem map_erase {α β : Type} (f : α → β) : ∀ (xs : List α) (k : Nat), (xs.eraseIdx k).map f = (xs.map f).eraseIdx k
  | [], _ => rfl
  | _ :: _, 0 => rfl
  | x :: xs, k + 1 => by
    show f x :: (xs.eraseIdx k).map f = f x :: (xs.map f).eraseIdx k
    rw [map_erase f xs k]
theorem nxC_get (h : Nat → Nat) (p : Nat) : ∀ (cs : List (Nat × Nat)) (i : Nat) (b : Option (Nat × Nat)) (j m : Nat), nxC h p cs i b = some (j, m) → b = some (j, m) ∨ ∃ (q : Nat) (c : Nat × Nat), j = i + q ∧ cs[q]? = some c ∧ c.1 % 4 = p
  | [], _, b, j, m, e => Or.inl e
  | c :: cs, i, b, j, m, e => by
    rw [nxC_cons] at e
    rcases nxC_get h p cs (i + 1) _ j m e with e | ⟨q, d, h1, h2, h3⟩
    · by_cases hc : c.1 % 4 = p
      · rw [if_pos hc] at e
        cases b with
        | none =>
          simp only at e
          cases e
          exact Or.inr ⟨0, c, by omega, rfl, hc⟩
        | some jm =>
          simp only at e
          by_cases hl : jm.2 < h c.1
          · rw [if_pos hl] at e
            cases e
            exact Or.inr ⟨0, c, by omega, rfl, hc⟩
          · rw [if_neg hl] at e
            exact Or.inl e
      · rw [if_neg hc] at e
        exact Or.inl e
    · exact Or.inr ⟨q + 1, d, by omega, by simpa using h2, h3⟩
theorem callNext_get {A : St} {p k : Nat} (h : callNext A p = some k) : ∃ c, (sC A)[k]? = some c ∧ c.1 % 4 = p := by
  unfold callNext at h
  cases hn : nxC (hf A) p (sC A) 0 none with
  | none => rw [hn] at h; cases h
  | some jm =>
    rw [hn] at h
    cases h
    rcases nxC_get (hf A) p (sC A) 0 none jm.1 jm.2 hn with e | ⟨q, c, h1, h2, h3⟩
    · cases e
    · have h1 : jm.1 = q := by omega
      refine ⟨c, ?_, h3⟩
      show (sC A)[jm.1]? = some c
      rw [h1]
      exact h2
theorem DynT.ans {A : St} {t p k : Nat} {x : Int32} (h : DynT (t + 1) A) (hp : p < 4) (hs : 0 < sN A 13 p) (hk : k < (sC A).length) : DynT t (setT (setN (setC A ((sC A).eraseIdx k)) 13 p (sN A 13 p - 1)) 0 18 x) := by
  obtain ⟨h1, h2, h3, h4, h5, h6, h7, h8, h9, h10, h11, h12, h13, h14⟩ := h
  have e : ∀ j, j ≠ 13 → sN (setT (setN (setC A ((sC A).eraseIdx k)) 13 p (sN A 13 p - 1)) 0 18 x) j = sN A j := fun j hj => u2_ne hj
  have e13 : ∀ q, q ≠ p → sN (setT (setN (setC A ((sC A).eraseIdx k)) 13 p (sN A 13 p - 1)) 0 18 x) 13 q = sN A 13 q := fun q hq => by
    show u2 A.1 13 p _ 13 q = A.1 13 q
    exact u2_n2 hq
  have e13p : sN (setT (setN (setC A ((sC A).eraseIdx k)) 13 p (sN A 13 p - 1)) 0 18 x) 13 p = sN A 13 p - 1 := by
    show u2 A.1 13 p _ 13 p = _
    exact u2_s
  have ht := tot_upd e13 4 hp
  rw [e13p] at ht
  have hle := tot_le (f := sN A 13) 4 hp
  have hcl := List.length_eraseIdx_of_lt hk
  unfold TP at h8
  unfold DynT DynX TP
  simp only [vc_eq (e 1 (by omega)), e 1 (by omega), e 7 (by omega), e 10 (by omega), e 11 (by omega), e 0 (by omega)]
  refine ⟨h1, h2, fun q hq hqp => ?_, h4, fun w hw => h5 w (List.mem_of_mem_eraseIdx hw), h6, h7, ?_, ?_, h10, h11, h12, h13, h14⟩
  · by_cases hqq : q = p
    · subst hqq; have := h3 q hq hqp; omega
    · rw [e13 q hqq]; exact h3 q hq hqp
  · show (sY A).length + (sQ A).length + _ + _ + _ ≤ t
    omega
  · show ((sC A).eraseIdx k).length ≤ (sY A).countP k12 + (sQ A).length + _ + 0
    omega
theorem answ1_ok {A : St} {p k : Nat} {c : Nat × Nat} (hs : SetOk A) (h : DynOk A) (hp : p < 4) (hst : 0 < sN A 13 p) (hk : (sC A)[k]? = some c) : SetOk (answ1 A p k c.1) ∧ DynOk (answ1 A p k c.1) ∧ sN (answ1 A p k c.1) 0 10 = sN A 0 10 + 1 ∧ (sC (answ1 A p k c.1)).length + 1 = (sC A).length := by
  have hkl := lt_of_get hk
  have hvc := (h.2.2.2.2.1 c (List.mem_of_getElem? hk)).1
  have hlt := vc_lt hs hvc
  have h1 := DynT.ans (t := 182) (x := sT A 0 18 + 1) h hp hst hkl
  have hship : sN A 6 (c.1 / 4) ≤ 9 := (hs.2.1 (c.1 / 4) (by omega)).2.2.2.2
  have e1 : ∀ j, j ≠ 13 → sN (setT (setN (setC A ((sC A).eraseIdx k)) 13 p (sN A 13 p - 1)) 0 18 (sT A 0 18 + 1)) j = sN A j := fun j hj => u2_ne hj
  unfold answ1
  refine ⟨hs.same (fun j hj1 hj2 => by rw [begW_Nj (by omega), e1 j (by omega)]), h1.beg (by omega) (fun z => absurd z (by omega)) (fun _ => (vc_eq (e1 1 (by omega)) c.1).mpr hvc) (by omega), by rw [begW_10, e1 0 (by omega)], ?_⟩
  rw [begW_C]
  show ((sC A).eraseIdx k).length + 1 = _
  rw [List.length_eraseIdx_of_lt hkl]
  omega
theorem answ_ok : ∀ (n : Nat) {A : St} {p : Nat}, SetOk A → DynOk A → p < 4 → SetOk (answ n A p) ∧ DynOk (answ n A p) ∧ sN (answ n A p) 0 10 ≤ sN A 0 10 + n
  | 0, A, p, hs, h, hp => ⟨hs, h, by unfold answ; omega⟩
  | n + 1, A, p, hs, h, hp => by
    unfold answ
    by_cases h0 : sN A 13 p = 0
    · rw [if_pos h0]; exact ⟨hs, h, by omega⟩
    · rw [if_neg h0]
      cases hc : callNext A p with
      | none => exact ⟨hs, h, by simp only; omega⟩
      | some k =>
        obtain ⟨c, hk, hcp⟩ := callNext_get hc
        simp only [hk]
        obtain ⟨a1, a2, a3, a4⟩ := answ1_ok hs h hp (by omega) hk
        obtain ⟨b1, b2, b3⟩ := answ_ok n a1 a2 hp
        exact ⟨b1, b2, by omega⟩
theorem c_answerCalls {o p : Nat} {I : MI} {L : ML} {A : St} {Q : MI → ML → Prop} (h : CR o I L A) (hs : SetOk A) (hd : DynOk A) (hb : sN A 0 10 + (sC A).length < 2 ^ 30) (hp : p < 4) (hQ : ∀ I' L', CR o I' L' (answ (sC A).length A p) → Fr o I L I' L' → Q I' L') : wp_X2_answerCalls o I L (nI p) Q := by
  have key : ∀ (n i : Nat) (A : St) (I : MI) (L : ML), CR o I L A → SetOk A → DynOk A → (sC A).length = n → i + n ≤ 184 → sN A 0 10 + n < 2 ^ 30 → (∀ I' L', CR o I' L' (answ n A p) → Fr o I L I' L' → Q I' L') → lp_X2_answerCalls_6 o (nI p) Q (n + 1) (nI i) I L := by
    intro n
    induction n with
    | zero =>
      intro i A I L h hs hd hn hi hbg hQ
      have hq := hQ I L h Fr.rf
      have hC : sC A = [] := List.eq_nil_of_length_eq_zero hn
      unfold lp_X2_answerCalls_6
      refine ⟨fun _ => hq, fun _ => ⟨vp_in_nI hp (by omega), fun _ => hq, fun _ => ?_⟩⟩
      have hcn : callNext A p = none := by unfold callNext; rw [hC]; rfl
      refine c_callToAnswer h hs (hd.wf hs (by omega)) (fun c hc => by have := (hd.1 c hc).1; have := (hs.2.2.2.2.1 c hc).1; omega) hp (fun k hk => by rw [hcn] at hk; cases hk) (fun _ => ?_)
      exact ⟨fun z => absurd rfl z, fun _ => hq⟩
    | succ n ih =>
      intro i A I L h hs hd hn hi hbg hQ
      have hwf := hd.wf hs (by omega)
      have hstore : I (o + 13) p = nI (sN A 13 p) := h.n (nd13 hp)
      have hTP := hd.2.2.2.2.2.2.2.1
      have hsl : sN A 13 p ≤ 183 := by
        have := tot_le (f := sN A 13) 4 hp
        unfold TP at hTP
        omega
      have hlt184 : ¬ (184 : Int32) ≤ nI i := by
        rw [show (184 : Int32) = nI 184 from rfl]
        exact nI_ge (by omega) (by omega)
      by_cases h0 : sN A 13 p = 0
      · have hq := hQ I L (by unfold answ; rw [if_pos h0]; exact h) Fr.rf
        unfold lp_X2_answerCalls_6
        refine ⟨fun z => absurd z hlt184, fun _ => ⟨vp_in_nI hp (by omega), fun _ => hq, fun z => ?_⟩⟩
        rw [ix_nI (by omega), hstore, h0] at z
        exact absurd (by decide) z
      · cases hc : callNext A p with
        | none =>
          have hq := hQ I L (by unfold answ; rw [if_neg h0, hc]; exact h) Fr.rf
          unfold lp_X2_answerCalls_6
          refine ⟨fun z => absurd z hlt184, fun _ => ⟨vp_in_nI hp (by omega), fun _ => hq, fun _ => ?_⟩⟩
          refine c_callToAnswer h hs hwf (fun c hc => by have := (hd.1 c hc).1; have := (hs.2.2.2.2.1 c hc).1; omega) hp (fun k hk => by rw [hc] at hk; cases hk) (fun _ => ?_)
          exact ⟨fun z => absurd rfl z, fun _ => hq⟩
        | some k =>
          obtain ⟨c, hk, hcp⟩ := callNext_get hc
          have hkl := lt_of_get hk
          have hmem := List.mem_of_getElem? hk
          have hvc := (hd.2.2.2.2.1 c hmem).1
          have hc16 := vc_lt hs hvc
          obtain ⟨a1, a2, a3, a4⟩ := answ1_ok hs hd hp (by omega) hk
          have hun : answ (n + 1) A p = answ n (answ1 A p k c.1) p := by
            show (if sN A 13 p = 0 then A else _) = _
            rw [if_neg h0, hc]
            simp only [hk]
          unfold lp_X2_answerCalls_6
          refine ⟨fun z => absurd z hlt184, fun _ => ⟨vp_in_nI hp (by omega), fun z => ?_, fun _ => ?_⟩⟩
          · rw [ix_nI (by omega), hstore, show (0 : Int32) = nI 0 from rfl] at z
            exact absurd z (nI_ge (by omega) (by omega))
          refine c_callToAnswer h hs hwf (fun c hc => by have := (hd.1 c hc).1; have := (hs.2.2.2.2.1 c hc).1; omega) hp (fun k' hk' => ?_) (fun z => by rw [hc] at z; cases z)
          rw [hc] at hk'
          cases hk'
          have hC184 := h.C.2.1
          rw [List.length_map] at hC184
          have hne : ¬ nI k = -1 := fun z => by
            have := nI_pos' (n := k) (by omega)
            rw [z] at this
            exact absurd this (by decide)
          refine ⟨fun _ => ?_, fun z => absurd z hne⟩
          have hat : ((sC A).map encC)[k]? = some (encC c) := by rw [List.getElem?_map, hk]; rfl
          refine r_at h.C hat (s_place (okC hwf hmem) ?_)
          refine r_removeAt h.C (by rw [List.length_map]; exact hkl) (fun I2 L2 eI eL hr => ?_)
          have h2 : CR o I2 L2 (setC A ((sC A).eraseIdx k)) := h.putC eI eL (by rw [map_erase]; exact hr)
          have f2 : Fr o I L I2 L2 := Fr.row (j := 18) (by omega) eI eL
          refine ⟨vp_in_nI hp (by omega), vp_in_nI hp (by omega), fun I3 e3 I4 e4 => ?_⟩
          have g13 : I2 (o + 13) p = nI (sN A 13 p) := h2.n (nd13 hp)
          rw [ix_nI (by omega), g13] at e3
          have e3' : I3 = u2 I2 (o + 13) p (nI (sN A 13 p - 1)) := by
            rw [e3]
            congr 1
            obtain ⟨q, hq⟩ : ∃ q, sN A 13 p = q + 1 := ⟨sN A 13 p - 1, by omega⟩
            rw [hq, nI_pred]
            rfl
          have h3 := h2.putN (nd13 hp) e3'
          have f3 := f2.tr (Fr.uI (L := L2) (j := 13) e3' (by omega))
          have g18 : I3 o 18 = sT A 0 18 := h3.t0 (i := 18) (by omega) (by omega)
          rw [g18] at e4
          have h4 := h3.putT0 (i := 18) (by omega) (by omega) e4
          have f4 := f3.tr (Fr.uI (L := L2) (j := 0) e4 (by omega))
          refine s_base (by omega) ⟨vp_in_nI (by omega) (by omega), ?_⟩
          have g6 : I4 (o + 6) (c.1 / 4) = nI (sN A 6 (c.1 / 4)) := h4.n (ndp (by omega) (by omega) (by omega))
          rw [ix_nI (by omega), g6]
          have hd4 := DynT.ans (t := 182) (x := sT A 0 18 + 1) hd hp (by omega) hkl
          have hs4 : SetOk (setT (setN (setC A ((sC A).eraseIdx k)) 13 p (sN A 13 p - 1)) 0 18 (sT A 0 18 + 1)) := hs.same (fun j hj1 hj2 => u2_ne (by omega))
          have hship : sN A 6 (c.1 / 4) ≤ 9 := (hs.2.1 (c.1 / 4) (by omega)).2.2.2.2
          have hyl := hd4.yl
          have hb4 : sN (setT (setN (setC A ((sC A).eraseIdx k)) 13 p (sN A 13 p - 1)) 0 18 (sT A 0 18 + 1)) 0 10 < 2 ^ 30 := by
            show u2 A.1 13 p (sN A 13 p - 1) 0 10 < 2 ^ 30
            rw [u2_ne (by omega)]
            exact Nat.lt_of_le_of_lt (Nat.le_add_right _ _) hbg
          refine c_beginWay (kind := 3) h4 (hd4.wf hs4 hb4) (by omega) (by omega) (by omega) (by omega) (fun I5 L5 h5 f5 => ?_)
          rw [nI_1]
          exact ih (i + 1) (answ1 A p k c.1) I5 L5 h5 a1 a2 (by omega) (by omega) (by omega) (fun I' L' h' f' => hQ I' L' (by rw [hun]; exact h') ((f4.tr f5).tr f'))
  unfold wp_X2_answerCalls
  rw [nI_m3, Nat.mod_eq_of_lt hp]
  have hN := key (sC A).length 0 A I L h hs hd rfl (by have := h.C.2.1; rw [List.length_map] at this; omega) hb hQ
  exact ⟨_, hN⟩
