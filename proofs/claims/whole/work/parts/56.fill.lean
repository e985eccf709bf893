/-- one that waits begins on a bench -/
theorem fill1_ok {A : St} {p : Nat} {qs : List Nat} (hs : SetOk A) (h : DynOk A) (hq : sQ A = p :: qs) : DynX 182 1 (setQ A qs) ∧ SetOk (setQ A qs) ∧ p < sN A 1 0 := by
  have hp : p < sN A 1 0 := h.2.2.2.2.2.2.1 p (by rw [hq]; exact List.mem_cons_self)
  refine ⟨?_, hs.same (fun _ _ _ => rfl), hp⟩
  obtain ⟨h1, h2, h3, h4, h5, h6, h7, h8, h9, h10, h11, h12, h13, h14⟩ := h
  refine ⟨h1, h2, h3, h4, h5, h6, fun q hm => h7 q (by rw [hq]; exact List.mem_cons_of_mem _ hm), ?_, ?_, h10, h11, h12, h13, h14⟩
  · unfold TP at h8 ⊢
    rw [hq, List.length_cons] at h8
    show (sY A).length + qs.length + tot (sN A 13) 4 + tot (sN A 10) 16 + tot (fun c => sN A 7 c - sN A 11 c) 16 ≤ 182
    omega
  · rw [hq, List.length_cons] at h9
    show (sC A).length ≤ (sY A).countP k12 + qs.length + tot (sN A 13) 4 + 1
    omega
theorem fill2_ok {A : St} {p : Nat} {qs : List Nat} (hs : SetOk A) (h : DynOk A) (hq : sQ A = p :: qs) : SetOk (begW (setQ A qs) 2 p (sN A 4 p)) ∧ DynOk (begW (setQ A qs) 2 p (sN A 4 p)) := by
  obtain ⟨a1, a2, a3⟩ := fill1_ok hs h hq
  have hp4 : p < 4 := by have := hs.1.1; omega
  have hw := (hs.2.1 p hp4).2.2.1
  exact ⟨a2.same (fun j h1 _ => begW_Nj (by omega)), a1.begs (by omega) (fun _ => a3) (fun z => absurd rfl z) (by omega) (by simp)⟩
theorem fill_ok : ∀ (n : Nat) {A : St}, SetOk A → DynOk A → SetOk (fill n A) ∧ DynOk (fill n A) ∧ sN (fill n A) 0 10 ≤ sN A 0 10 + n
  | 0, A, hs, h => ⟨hs, h, by unfold fill; omega⟩
  | n + 1, A, hs, h => by
    unfold fill
    by_cases h0 : sN A 1 2 ≤ sN A 0 11
    · rw [if_pos h0]; exact ⟨hs, h, by omega⟩
    · rw [if_neg h0]
      cases hq : sQ A with
      | nil => exact ⟨hs, h, by simp only; omega⟩
      | cons p qs =>
        simp only
        obtain ⟨a1, a2⟩ := fill2_ok hs h hq
        obtain ⟨b1, b2, b3⟩ := fill_ok n a1 a2
        refine ⟨b1, b2, ?_⟩
        rw [begW_10] at b3
        have : sN (setQ A qs) 0 10 = sN A 0 10 := rfl
        omega
theorem c_fillBenches {o : Nat} {I : MI} {L : ML} {A : St} {Q : MI → ML → Prop} (h : CR o I L A) (hs : SetOk A) (hd : DynOk A) (hb : sN A 0 10 + 3 < 2 ^ 30) (hQ : ∀ I' L', CR o I' L' (fill 3 A) → Fr o I L I' L' → Q I' L') : wp_X2_fillBenches o I L Q := by
  have key : ∀ (n i : Nat) (A : St) (I : MI) (L : ML), CR o I L A → SetOk A → DynOk A → i + n = 3 → sN A 0 10 + n < 2 ^ 30 → (∀ I' L', CR o I' L' (fill n A) → Fr o I L I' L' → Q I' L') → lp_X2_fillBenches_2 o Q (n + 1) (nI i) I L := by
    intro n
    induction n with
    | zero =>
      intro i A I L h hs hd hi hb hQ
      have hi : i = 3 := by omega
      subst hi
      unfold lp_X2_fillBenches_2
      exact ⟨fun _ => hQ I L h Fr.rf, fun z => absurd (by decide) z⟩
    | succ n ih =>
      intro i A I L h hs hd hi hb hQ
      have hlt : ¬ (3 : Int32) ≤ nI i := by
        rw [show (3 : Int32) = nI 3 from rfl]
        exact nI_ge (by omega) (by omega)
      have e12 : I (o + 1) 2 = nI (sN A 1 2) := h.n (nd1 (by omega))
      have e11 : I o 11 = nI (sN A 0 11) := h.n (nd0 (by omega) (by omega))
      have hyl := hd.yl
      have hk2 := hd.2.2.2.2.2.2.2.2.2.1
      have hk2l := List.countP_le_length (p := k2) (l := sY A)
      have hben := hs.1.2.2.2.1
      have eQ := h.Q.1
      rw [List.length_map] at eQ
      unfold lp_X2_fillBenches_2
      rw [e12, e11, eQ]
      refine ⟨fun z => absurd z hlt, fun _ => ⟨fun z => ?_, fun z => ?_⟩⟩
      · have z : sN A 1 2 ≤ sN A 0 11 := (nI_leI (by omega) (by omega)).mp z
        exact hQ I L (by unfold fill; rw [if_pos z]; exact h) Fr.rf
      · have z : ¬ sN A 1 2 ≤ sN A 0 11 := fun q => z ((nI_leI (by omega) (by omega)).mpr q)
        cases hq : sQ A with
        | nil =>
          refine ⟨fun w => absurd rfl w, fun _ => hQ I L ?_ Fr.rf⟩
          unfold fill
          rw [if_neg z]
          simp only [hq]
          exact h
        | cons p qs =>
          have hne : ¬ nI (p :: qs).length = 0 := nI_ne0 (by simp) (by rw [← hq]; omega)
          refine ⟨fun _ => ?_, fun w => absurd w hne⟩
          obtain ⟨a1, a2, a3⟩ := fill1_ok hs hd hq
          obtain ⟨b1, b2⟩ := fill2_ok hs hd hq
          have hparts := hs.1.1
          have hp4 : p < 4 := by omega
          have hw := (hs.2.1 p hp4).2.2.1
          have hwf := hd.wf hs (by omega)
          have hmem : p ∈ sQ A := by rw [hq]; exact List.mem_cons_self
          have hat : ((sQ A).map encQ)[0]? = some (encQ p) := by rw [hq]; rfl
          rw [← nI_0]
          refine r_at h.Q hat (s_place (okQ hwf hmem) (s_part ?_))
          rw [Nat.mod_eq_of_lt hp4]
          refine r_removeAt (i := 0) h.Q (by rw [hq]; simp) (fun I2 L2 eI eL hr => ?_)
          have h2 : CR o I2 L2 (setQ A qs) := h.putQ eI eL (by
            have e : qs.map encQ = ((sQ A).map encQ).eraseIdx 0 := by rw [hq]; rfl
            rw [e]; exact hr)
          have f2 : Fr o I L I2 L2 := Fr.row (j := 20) (by omega) eI eL
          refine ⟨vp_in_nI hp4 (by omega), ?_⟩
          have g4 : I2 (o + 4) p = nI (sN A 4 p) := h2.n (ndp (by omega) (by omega) hp4)
          rw [ix_nI (by omega), g4]
          have hyl2 := a1.yl
          have hb2 : sN (setQ A qs) 0 10 < 2 ^ 30 := Nat.lt_of_le_of_lt (Nat.le_add_right _ _) hb
          refine c_beginWay (kind := 2) h2 (a1.wf a2 hb2) (by omega) (by omega) (by omega) (by omega) (fun I5 L5 h5 f5 => ?_)
          rw [nI_1]
          refine ih (i + 1) (begW (setQ A qs) 2 p (sN A 4 p)) I5 L5 h5 b1 b2 (by omega) ?_ (fun I' L' h' f' => hQ I' L' ?_ ((f2.tr f5).tr f'))
          · rw [begW_10]
            show sN A 0 10 + 1 + n < _
            omega
          · unfold fill
            rw [if_neg z]
            simp only [hq]
            exact h'
  unfold wp_X2_fillBenches
  exact ⟨_, key 3 0 A I L h hs hd rfl hb hQ⟩
