section POP
variable {A : St} {y : Nat × Nat × Nat × Nat} {ys : List (Nat × Nat × Nat × Nat)}
theorem pop_facts (h : DynOk A) (hy : sY A = y :: ys) : y.1 ≤ 4 ∧ (y.1 = 2 → y.2.2.1 < sN A 1 0) ∧ (y.1 ≠ 2 → vc A y.2.2.1) := by
  obtain ⟨a1, a2, a3, a4⟩ := h.2.2.2.2.2.1 y (by rw [hy]; exact List.mem_cons_self)
  exact ⟨a1, a2, a3⟩
theorem come1_ok (hs : SetOk A) (h : DynOk A) (hy : sY A = y :: ys) (hk : y.1 = 1) : DynOk (setQ (setY A ys) (sQ A ++ [y.2.2.1 % 4])) := by
  have hv := (pop_facts h hy).2.2 (by omega)
  have hk2 : k2 y = false := by simp [k2, hk]
  have hk12 : k12 y = true := by simp [k12, hk]
  obtain ⟨h1, h2, h3, h4, h5, h6, h7, h8, h9, h10, h11, h12, h13, h14⟩ := h
  rw [hy] at h6 h9 h10 h11 h12
  unfold TP at h8
  rw [hy] at h8
  rw [List.countP_cons_of_pos hk12] at h9
  rw [List.countP_cons_of_neg (by rw [hk2]; decide)] at h10
  rw [List.length_cons] at h8
  refine ⟨h1, h2, h3, h4, h5, fun z hz => h6 z (List.mem_cons_of_mem _ hz), fun q hq => ?_, ?_, ?_, h10, (List.pairwise_cons.mp h11).2, fun z hz => h12 z (List.mem_cons_of_mem _ hz), h13, h14⟩
  · rcases List.mem_append.mp hq with hq | hq
    · exact h7 q hq
    · have : q = y.2.2.1 % 4 := by simpa using hq
      rw [this]
      exact hv.2
  · show ys.length + (sQ A ++ [y.2.2.1 % 4]).length + tot (sN A 13) 4 + tot (sN A 10) 16 + tot (fun c => sN A 7 c - sN A 11 c) 16 ≤ 183
    rw [List.length_append, List.length_singleton]
    omega
  · show (sC A).length ≤ ys.countP k12 + (sQ A ++ [y.2.2.1 % 4]).length + tot (sN A 13) 4 + 0
    rw [List.length_append, List.length_singleton]
    omega
theorem come3_ok (h : DynOk A) (hy : sY A = y :: ys) (hk : y.1 ≠ 1) (hk' : y.1 ≠ 2) : DynX 182 0 (setY A ys) := by
  have hk2 : k2 y = false := by simp [k2, hk']
  have hk12 : k12 y = false := by simp [k12, hk, hk']
  obtain ⟨h1, h2, h3, h4, h5, h6, h7, h8, h9, h10, h11, h12, h13, h14⟩ := h
  rw [hy] at h6 h9 h10 h11 h12
  unfold TP at h8
  rw [hy] at h8
  rw [List.countP_cons_of_neg (by rw [hk12]; decide)] at h9
  rw [List.countP_cons_of_neg (by rw [hk2]; decide)] at h10
  rw [List.length_cons] at h8
  refine ⟨h1, h2, h3, h4, h5, fun z hz => h6 z (List.mem_cons_of_mem _ hz), h7, ?_, h9, h10, (List.pairwise_cons.mp h11).2, fun z hz => h12 z (List.mem_cons_of_mem _ hz), h13, h14⟩
  show ys.length + (sQ A).length + tot (sN A 13) 4 + tot (sN A 10) 16 + tot (fun c => sN A 7 c - sN A 11 c) 16 ≤ 182
  omega
abbrev come2A (A : St) (ys : List (Nat × Nat × Nat × Nat)) (p : Nat) : St := setN (setN (setY A ys) 0 11 (sN A 0 11 - 1)) 13 p (sN A 13 p + 1)
theorem come2_ok (hs : SetOk A) (h : DynOk A) (hy : sY A = y :: ys) (hk : y.1 = 2) : DynOk (come2A A ys (y.2.2.1 % 4)) ∧ SetOk (come2A A ys (y.2.2.1 % 4)) := by
  have hv := (pop_facts h hy).2.1 hk
  have hparts := hs.1.1
  have hp4 : y.2.2.1 % 4 < 4 := by omega
  have hpe : y.2.2.1 % 4 = y.2.2.1 := by omega
  have hk2 : k2 y = true := by simp [k2, hk]
  have hk12 : k12 y = true := by simp [k12, hk]
  have e : ∀ j, j ≠ 0 → j ≠ 13 → sN (come2A A ys (y.2.2.1 % 4)) j = sN A j := fun j h1 h2 => by
    funext i
    simp [sN, setN, setY, u2_at, h1, h2]
  have e13 : ∀ q, q ≠ y.2.2.1 % 4 → sN (come2A A ys (y.2.2.1 % 4)) 13 q = sN A 13 q := fun q hq => by simp [sN, setN, setY, u2_at, hq]
  have e13p : sN (come2A A ys (y.2.2.1 % 4)) 13 (y.2.2.1 % 4) = sN A 13 (y.2.2.1 % 4) + 1 := by simp [sN, setN, setY, u2_at]
  have e9 : sN (come2A A ys (y.2.2.1 % 4)) 0 9 = sN A 0 9 := by simp [sN, setN, setY, u2_at]
  have e10 : sN (come2A A ys (y.2.2.1 % 4)) 0 10 = sN A 0 10 := by simp [sN, setN, setY, u2_at]
  have e11 : sN (come2A A ys (y.2.2.1 % 4)) 0 11 = sN A 0 11 - 1 := by simp [sN, setN, setY, u2_at]
  have ht := tot_upd e13 4 hp4
  rw [e13p] at ht
  refine ⟨?_, hs.same (fun j h1 h2 => e j (by omega) (by omega))⟩
  obtain ⟨h1, h2, h3, h4, h5, h6, h7, h8, h9, h10, h11, h12, h13, h14⟩ := h
  rw [hy] at h6 h9 h10 h11 h12
  unfold TP at h8
  rw [hy] at h8
  rw [List.countP_cons_of_pos hk12] at h9
  rw [List.countP_cons_of_pos hk2] at h10
  rw [List.length_cons] at h8
  unfold DynOk DynT DynX TP
  simp only [vc_eq (e 1 (by omega) (by omega)), e 1 (by omega) (by omega), e 7 (by omega) (by omega), e 10 (by omega) (by omega), e 11 (by omega) (by omega), e9, e10, e11]
  refine ⟨h1, h2, fun q hq hqp => ?_, h4, h5, fun z hz => h6 z (List.mem_cons_of_mem _ hz), h7, ?_, ?_, ?_, (List.pairwise_cons.mp h11).2, fun z hz => h12 z (List.mem_cons_of_mem _ hz), h13, h14⟩
  · rw [e13 q (by omega)]
    exact h3 q hq hqp
  · show ys.length + (sQ A).length + _ + _ + _ ≤ 183
    omega
  · show (sC A).length ≤ ys.countP k12 + (sQ A).length + _ + 0
    omega
  · show sN A 0 11 - 1 = ys.countP k2
    omega
end POP
theorem DynX.cl {A : St} {t : Nat} (h : DynX t 0 A) : (sC A).length ≤ t := by
  have h8 := h.2.2.2.2.2.2.2.1
  have h9 := h.2.2.2.2.2.2.2.2.1
  have := List.countP_le_length (p := k12) (l := sY A)
  unfold TP at h8
  omega
theorem come_ok {A : St} {y : Nat × Nat × Nat × Nat} {ys : List (Nat × Nat × Nat × Nat)} (hs : SetOk A) (h : DynOk A) (hy : sY A = y :: ys) : SetOk (come (setY A ys) y.1 y.2.2.1) ∧ DynOk (come (setY A ys) y.1 y.2.2.1) ∧ sN (come (setY A ys) y.1 y.2.2.1) 0 10 ≤ sN A 0 10 + 190 := by
  have hcl := h.cl
  unfold come
  by_cases hk1 : y.1 = 1
  · rw [if_pos hk1]
    have a := come1_ok hs h hy hk1
    obtain ⟨b1, b2, b3⟩ := fill_ok 3 (A := setQ (setY A ys) (sQ A ++ [y.2.2.1 % 4])) (hs.same (fun _ _ _ => rfl)) a
    refine ⟨b1, b2, ?_⟩
    have : sN (setQ (setY A ys) (sQ A ++ [y.2.2.1 % 4])) 0 10 = sN A 0 10 := rfl
    show sN (fill 3 (setQ (setY A ys) (sQ A ++ [y.2.2.1 % 4]))) 0 10 ≤ _
    omega
  · rw [if_neg hk1]
    by_cases hk2 : y.1 = 2
    · rw [if_pos hk2]
      obtain ⟨a1, a2⟩ := come2_ok hs h hy hk2
      have hparts := hs.1.1
      obtain ⟨b1, b2, b3⟩ := answ_ok (sC (come2A A ys (y.2.2.1 % 4))).length a2 a1 (p := y.2.2.1 % 4) (by omega)
      obtain ⟨c1, c2, c3⟩ := fill_ok 3 b1 b2
      refine ⟨c1, c2, ?_⟩
      have e10 : sN (come2A A ys (y.2.2.1 % 4)) 0 10 = sN A 0 10 := by simp [sN, setN, setY, u2_at]
      have eC : (sC (come2A A ys (y.2.2.1 % 4))).length = (sC A).length := rfl
      have c3' : sN (fill 3 (answ (sC (come2A A ys (y.2.2.1 % 4))).length (come2A A ys (y.2.2.1 % 4)) (y.2.2.1 % 4))) 0 10 ≤ _ := c3
      show sN (fill 3 (answ (sC (come2A A ys (y.2.2.1 % 4))).length (come2A A ys (y.2.2.1 % 4)) (y.2.2.1 % 4))) 0 10 ≤ _
      omega
    · rw [if_neg hk2]
      have a := come3_ok h hy hk1 hk2
      have hv := (pop_facts h hy).2.2 hk2
      obtain ⟨b1, b2, b3, b4⟩ := recv_ok (A := setY A ys) (hs.same (fun _ _ _ => rfl)) a (c := y.2.2.1) hv
      refine ⟨b1, b2, ?_⟩
      rw [b3]
      exact Nat.le_add_right _ _
theorem c_come {o : Nat} {I : MI} {L : ML} {A : St} {y : Nat × Nat × Nat × Nat} {ys : List (Nat × Nat × Nat × Nat)} {Q : MI → ML → Prop} (h : CR o I L (setY A ys)) (hs : SetOk A) (hd : DynOk A) (hy : sY A = y :: ys) (hb : sN A 0 10 + 200 < 2 ^ 30) (hQ : ∀ I' L', CR o I' L' (come (setY A ys) y.1 y.2.2.1) → Fr o I L I' L' → Q I' L') : wp_X2_come o I L (nI y.1) (nI y.2.2.1) Q := by
  have hf := pop_facts hd hy
  have hparts := hs.1.1
  have hcl := hd.cl
  have hp4 : y.2.2.1 % 4 < 4 := Nat.mod_lt _ (by decide)
  have hk5 : y.1 ≤ 4 := hf.1
  unfold wp_X2_come
  refine s_part ⟨fun n1 => ⟨fun n2 => ?_, fun n2 => ?_⟩, fun n1 => ?_⟩
  · have n1 : y.1 ≠ 1 := fun z => n1 (by rw [z]; rfl)
    have n2 : y.1 ≠ 2 := fun z => n2 (by rw [z]; rfl)
    have a := come3_ok hd hy n1 n2
    refine c_receive h (hs.same (fun _ _ _ => rfl)) a (by show sN A 0 10 < _; omega) (by omega) (hf.2.2 n2) (fun I' L' h' f' => hQ I' L' ?_ f')
    unfold come
    rw [if_neg n1, if_neg n2]
    exact h'
  · have n2 : y.1 = 2 := (nI_eq (b := 2) (by omega) (by omega)).mp n2
    intro I2 e2
    have g11 : I o 11 = nI (sN A 0 11) := h.n (nd0 (by omega) (by omega))
    obtain ⟨a1, a2⟩ := come2_ok hs hd hy n2
    have hk2c : 1 ≤ sN A 0 11 := by
      rw [hd.2.2.2.2.2.2.2.2.2.1, hy, List.countP_cons_of_pos (by simp [k2, n2])]
      omega
    rw [g11] at e2
    have e2' : I2 = u2 I (o + 0) 11 (nI (sN A 0 11 - 1)) := by
      rw [e2]
      congr 1
      obtain ⟨q, hq⟩ : ∃ q, sN A 0 11 = q + 1 := ⟨sN A 0 11 - 1, by omega⟩
      rw [hq, nI_pred]
      rfl
    have h2 := h.putN (j := 0) (nd0 (by omega) (by omega)) e2'
    refine ⟨vp_in_nI hp4 (by omega), vp_in_nI hp4 (by omega), fun I3 e3 => ?_⟩
    have g13 : I2 (o + 13) (y.2.2.1 % 4) = nI (sN A 13 (y.2.2.1 % 4)) := by
      have := h2.n (nd13 hp4)
      rw [this]
      congr 1
    rw [ix_nI (by omega), g13, nI_1] at e3
    have h3 := h2.putN (nd13 hp4) e3
    have f3 : Fr o I L I3 L := (Fr.uI (j := 0) e2' (by omega)).tr (Fr.uI (j := 13) e3 (by omega))
    have e10 : sN (come2A A ys (y.2.2.1 % 4)) 0 10 = sN A 0 10 := by simp [sN, setN, setY, u2_at]
    have hb2 : sN (come2A A ys (y.2.2.1 % 4)) 0 10 + (sC (come2A A ys (y.2.2.1 % 4))).length < 2 ^ 30 := by
      rw [e10]
      show _ + (sC A).length < _
      omega
    refine c_answerCalls (A := come2A A ys (y.2.2.1 % 4)) h3 a2 a1 hb2 hp4 (fun I4 L4 h4 f4 => ?_)
    obtain ⟨b1, b2, b3⟩ := answ_ok (sC (come2A A ys (y.2.2.1 % 4))).length a2 a1 (p := y.2.2.1 % 4) hp4
    refine c_fillBenches h4 b1 b2 ?_ (fun I5 L5 h5 f5 => hQ I5 L5 ?_ ((f3.tr f4).tr f5))
    · have : (sC (come2A A ys (y.2.2.1 % 4))).length = (sC A).length := rfl
      omega
    · unfold come
      rw [if_neg (by omega), if_pos n2]
      exact h5
  · have n1 : y.1 = 1 := (nI_eq (b := 1) (by omega) (by omega)).mp n1
    have a := come1_ok hs hd hy n1
    have hyl := hd.yl
    have hwf := hd.wf hs (by omega)
    rw [← nI_0]
    refine s_of (d := 0) (n := 0) (m := 0) (p := y.2.2.1 % 4) ⟨by omega, by omega, by omega, by omega⟩ ?_
    refine r_add h.Q (by rw [List.length_map]; show (sQ A).length < 184; rw [hy, List.length_cons] at hyl; omega) (fun I2 L2 eI eL hr => ?_)
    have hL2 : ∀ k, k ≠ o + 20 + 1 → L2 k = L k := fun k hk => by rw [eL]; exact u2_ne hk
    have h2 : CR o I2 L2 (setQ (setY A ys) (sQ A ++ [y.2.2.1 % 4])) := h.putQ eI hL2 (by rw [List.map_append]; exact hr)
    have f2 : Fr o I L I2 L2 := Fr.row (j := 20) (by omega) eI hL2
    refine c_fillBenches h2 (hs.same (fun _ _ _ => rfl)) a (by show sN A 0 10 + 3 < _; omega) (fun I5 L5 h5 f5 => hQ I5 L5 ?_ (f2.tr f5))
    unfold come
    rw [if_pos n1]
    exact h5
theorem arr_ok : ∀ (n : Nat) {A : St}, SetOk A → DynOk A → SetOk (arr n A) ∧ DynOk (arr n A) ∧ sN (arr n A) 0 10 ≤ sN A 0 10 + 190 * n
  | 0, A, hs, h => ⟨hs, h, by unfold arr; omega⟩
  | n + 1, A, hs, h => by
    unfold arr
    cases hy : sY A with
    | nil => exact ⟨hs, h, by simp only; omega⟩
    | cons y ys =>
      simp only
      by_cases hd : y.2.2.2 ≤ sN A 0 9
      · rw [if_pos hd]
        obtain ⟨a1, a2, a3⟩ := come_ok hs h hy
        obtain ⟨b1, b2, b3⟩ := arr_ok n a1 a2
        exact ⟨b1, b2, by omega⟩
      · rw [if_neg hd]
        exact ⟨hs, h, by omega⟩
theorem c_arr {o : Nat} {Q : MI → ML → Prop} : ∀ (n i : Nat) (A : St) (I : MI) (L : ML), CR o I L A → SetOk A → DynOk A → i + n = 184 → sN A 0 10 + 190 * n + 200 < 2 ^ 30 → (∀ I' L', CR o I' L' (arr n A) → Fr o I L I' L' → Q I' L') → lp_X2_goBy_12 o Q Q (n + 1) (nI i) I L := by
  intro n
  induction n with
  | zero =>
    intro i A I L h hs hd hi hb hQ
    have hi : i = 184 := by omega
    subst hi
    unfold lp_X2_goBy_12
    exact ⟨fun _ => hQ I L h Fr.rf, fun z => absurd (by decide) z⟩
  | succ n ih =>
    intro i A I L h hs hd hi hb hQ
    have hlt : ¬ (184 : Int32) ≤ nI i := by
      rw [show (184 : Int32) = nI 184 from rfl]
      exact nI_ge (by omega) (by omega)
    have hwf := hd.wf hs (by omega)
    have hyl := hd.yl
    have eY := h.Y.1
    rw [List.length_map] at eY
    have e9 : I o 9 = nI (sN A 0 9) := h.n (nd0 (by omega) (by omega))
    have h13 := hd.2.2.2.2.2.2.2.2.2.2.2.2.1
    unfold lp_X2_goBy_12
    rw [eY, e9]
    refine ⟨fun z => absurd z hlt, fun _ => ?_⟩
    cases hy : sY A with
    | nil =>
      refine ⟨fun _ => hQ I L ?_ Fr.rf, fun w => absurd rfl w⟩
      unfold arr
      simp only [hy]
      exact h
    | cons y ys =>
      have hne : ¬ nI (y :: ys).length = 0 := nI_ne0 (by simp) (by rw [← hy]; omega)
      refine ⟨fun w => absurd w hne, fun _ => ?_⟩
      have hmem : y ∈ sY A := by rw [hy]; exact List.mem_cons_self
      have hok := okY hwf hmem
      have hat : ((sY A).map encY)[0]? = some (encY y) := by rw [hy]; rfl
      rw [← nI_0]
      refine r_at h.Y hat (s_day hok ⟨fun z => ?_, fun z => ?_⟩)
      · have z : y.2.2.2 ≤ sN A 0 9 := (nI_leI (by have := hok.1; omega) (by omega)).mp z
        refine r_at h.Y hat ?_
        refine r_removeAt (i := 0) h.Y (by rw [hy]; simp) (fun I2 L2 eI eL hr => ?_)
        have h2 : CR o I2 L2 (setY A ys) := h.putY eI eL (by
          have e : ys.map encY = ((sY A).map encY).eraseIdx 0 := by rw [hy]; rfl
          rw [e]; exact hr)
        have f2 : Fr o I L I2 L2 := Fr.row (j := 14) (by omega) eI eL
        refine s_mark hok (s_place hok ?_)
        refine c_come h2 hs hd hy (by omega) (fun I3 L3 h3 f3 => ?_)
        obtain ⟨a1, a2, a3⟩ := come_ok hs hd hy
        rw [nI_1]
        refine ih (i + 1) _ I3 L3 h3 a1 a2 (by omega) (by omega) (fun I' L' h' f' => hQ I' L' ?_ ((f2.tr f3).tr f'))
        unfold arr
        simp only [hy]
        rw [if_pos z]
        exact h'
      · have z : ¬ y.2.2.2 ≤ sN A 0 9 := fun q => z ((nI_leI (by have := hok.1; omega) (by omega)).mpr q)
        refine hQ I L ?_ Fr.rf
        unfold arr
        simp only [hy]
        rw [if_neg z]
        exact h
