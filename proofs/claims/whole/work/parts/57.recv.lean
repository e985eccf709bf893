theorem countP_erase {α : Type} (P : α → Bool) : ∀ (xs : List α) (k : Nat) (x : α), xs[k]? = some x → (xs.eraseIdx k).countP P + (if P x then 1 else 0) = xs.countP P
  | [], _, _, h => by simp at h
  | y :: ys, 0, x, h => by
    simp at h
    subst h
    show ys.countP P + _ = _
    rw [List.countP_cons]
  | y :: ys, k + 1, x, h => by
    have ih := countP_erase P ys k x (by simpa using h)
    show (y :: ys.eraseIdx k).countP P + _ = _
    rw [List.countP_cons, List.countP_cons]
    omega
theorem wIdx1_some {A : St} {c k : Nat} (h : wIdx1 A c = some k) : ∃ w, (sW A)[k]? = some w ∧ w.1 = c := by
  obtain ⟨q, x, h1, h2, h3, -⟩ := fidx0_some _ _ _ h
  have : k = q := by omega
  subst this
  exact ⟨x, h2, by simpa using h3⟩
theorem wIdx1_none {A : St} {c : Nat} (h : wIdx1 A c = none) : (sW A).countP (fun w => w.1 == c) = 0 := by
  rw [List.countP_eq_zero]
  intro w hw
  have := fidx0_none _ _ h w hw
  simpa using this
theorem recv_none {A : St} {c : Nat} (h : wIdx1 A c = none) : recv A c = setN A 10 c (sN A 10 c + 1) := by
  unfold recv
  rw [h]
theorem recv_some {A : St} {c k : Nat} {w : Nat × Nat × Nat} (h : wIdx1 A c = some k) (hw : (sW A)[k]? = some w) : recv A c = recvW A c k w.2.1 := by
  unfold recv
  rw [h]
  simp only [hw]
theorem recv_ok {A : St} {t s c : Nat} (hs : SetOk A) (h : DynX t s A) (hc : vc A c) : SetOk (recv A c) ∧ DynX (t + 1) s (recv A c) ∧ sN (recv A c) 0 10 = sN A 0 10 ∧ sN (recv A c) 0 9 = sN A 0 9 := by
  have hc12 := vc_lt hs hc
  have hc16 : c < 16 := by omega
  cases hi : wIdx1 A c with
  | none =>
    rw [recv_none hi]
    have e : ∀ j, j ≠ 10 → sN (setN A 10 c (sN A 10 c + 1)) j = sN A j := fun j hj => u2_ne hj
    have e10 : ∀ q, q ≠ c → sN (setN A 10 c (sN A 10 c + 1)) 10 q = sN A 10 q := fun q hq => by
      show u2 A.1 10 c _ 10 q = A.1 10 q
      exact u2_n2 hq
    have e10c : sN (setN A 10 c (sN A 10 c + 1)) 10 c = sN A 10 c + 1 := by
      show u2 A.1 10 c _ 10 c = _
      exact u2_s
    have ht := tot_upd e10 16 hc16
    rw [e10c] at ht
    refine ⟨hs.same (fun j h1 h2 => e j (by omega)), ?_, by rw [e 0 (by omega)], by rw [e 0 (by omega)]⟩
    obtain ⟨h1, h2, h3, h4, h5, h6, h7, h8, h9, h10, h11, h12, h13, h14⟩ := h
    unfold TP at h8
    unfold DynX TP
    simp only [vc_eq (e 1 (by omega)), e 1 (by omega), e 7 (by omega), e 13 (by omega), e 11 (by omega), e 0 (by omega)]
    refine ⟨h1, fun q hq hv => ?_, h3, h4, h5, h6, h7, ?_, h9, h10, h11, h12, h13, h14⟩
    · rw [e10 q (fun z => hv (by rw [z]; exact hc))]
      exact h2 q hq hv
    · show (sY A).length + (sQ A).length + _ + _ + _ ≤ t + 1
      omega
  | some k =>
    obtain ⟨w, hw, hwc⟩ := wIdx1_some hi
    rw [recv_some hi hw]
    have hmem := List.mem_of_getElem? hw
    have e : ∀ j, j ≠ 11 → sN (recvW A c k w.2.1) j = sN A j := fun j hj => u2_ne hj
    have e11 : ∀ q, q ≠ c → sN (recvW A c k w.2.1) 11 q = sN A 11 q := fun q hq => by
      show u2 A.1 11 c _ 11 q = A.1 11 q
      exact u2_n2 hq
    have e11c : sN (recvW A c k w.2.1) 11 c = sN A 11 c - 1 := by
      show u2 A.1 11 c _ 11 c = _
      exact u2_s
    have eW : sW (recvW A c k w.2.1) = (sW A).eraseIdx k := rfl
    refine ⟨hs.same (fun j h1 h2 => e j (by omega)), ?_, by rw [e 0 (by omega)], by rw [e 0 (by omega)]⟩
    obtain ⟨h1, h2, h3, h4, h5, h6, h7, h8, h9, h10, h11, h12, h13, h14⟩ := h
    have hcnt := fun q => countP_erase (fun w : Nat × Nat × Nat => w.1 == q) (sW A) k w hw
    have hpos : 1 ≤ sN A 11 c := by
      rw [(h1 c hc16).2]
      have := hcnt c
      simp [hwc] at this
      omega
    have hle := (h1 c hc16).1
    have ht := tot_upd (f := fun q => sN A 7 q - sN A 11 q) (g := fun q => sN A 7 q - sN (recvW A c k w.2.1) 11 q) (i := c) (fun q hq => by simp only [e11 q hq]) 16 hc16
    simp only [e11c] at ht
    unfold TP at h8
    unfold DynX TP
    simp only [vc_eq (e 1 (by omega)), e 1 (by omega), e 7 (by omega), e 13 (by omega), e 10 (by omega), e 0 (by omega), eW]
    refine ⟨fun q hq => ?_, h2, h3, fun v hv => h4 v (List.mem_of_mem_eraseIdx hv), h5, h6, h7, ?_, h9, h10, h11, h12, h13, h14.sublist (List.eraseIdx_sublist _ _)⟩
    · have hh := h1 q hq
      have hcq := hcnt q
      by_cases hqc : q = c
      · subst hqc
        rw [e11c]
        simp [hwc] at hcq
        exact ⟨by omega, by omega⟩
      · rw [e11 q hqc]
        have : (w.1 == q) = false := by simp; omega
        simp only [this, Bool.false_eq_true, if_false, Nat.add_zero] at hcq
        rw [hcq]
        exact hh
    · show (sY A).length + (sQ A).length + _ + _ + _ ≤ t + 1
      omega
theorem c_receive {o c : Nat} {I : MI} {L : ML} {A : St} {t s : Nat} {Q : MI → ML → Prop} (h : CR o I L A) (hs : SetOk A) (hd : DynX t s A) (hb : sN A 0 10 < 2 ^ 30) (ht : t ≤ 183) (hc : vc A c) (hQ : ∀ I' L', CR o I' L' (recv A c) → Fr o I L I' L' → Q I' L') : wp_X2_receive o I L (nI c) Q := by
  have hc12 := vc_lt hs hc
  have hc16 : c < 16 := by omega
  have hwf := hd.wf hs hb
  have hh := hd.1 c hc16
  have hu := (hs.2.2.2.2.1 c hc16).1
  have hW72 := h.W.2.1
  rw [List.length_map] at hW72
  have hTP := hd.2.2.2.2.2.2.2.1
  have hhand : sN A 10 c ≤ 183 := by
    have := tot_le (f := sN A 10) 16 hc16
    unfold TP at hTP
    omega
  have e11 : I (o + 11) c = nI (sN A 11 c) := h.n (nd11 hc16)
  have hcc : nI c &&& 15 = nI c := by rw [nI_m15, Nat.mod_eq_of_lt hc16]
  -- the end without a want
  have fin0 : wIdx1 A c = none → jn_X2_receive_29 o I L (nI c) (-1) Q := by
    intro hn
    unfold jn_X2_receive_29
    refine ⟨fun z => absurd rfl z, fun _ => ⟨vp_in_nI hc16 (by omega), vp_in_nI hc16 (by omega), fun I2 e2 => ?_⟩⟩
    have g : I (o + 10) c = nI (sN A 10 c) := h.n (nd10 hc16)
    rw [ix_nI (by omega), g, nI_1] at e2
    exact hQ I2 L (by rw [recv_none hn]; exact h.putN (nd10 hc16) e2) (Fr.uI (j := 10) e2 (by omega))
  have hfe : fidx (fun x => decide (lg_cmp (x &&& (15 : Int32).toInt64) (nI c).toInt64 = 0)) ((sW A).map encW) 0 0 = wIdx1 A c := by
    unfold wIdx1
    rw [fidx_map]
    refine fidx_congr _ _ _ (fun x hx => ?_)
    rw [Bool.eq_iff_iff]
    simp only [decide_eq_true_eq, beq_iff_eq]
    exact m15 (okW hwf hx) hc16
  unfold wp_X2_receive
  rw [hcc, ix_nI (by omega), e11]
  refine ⟨vp_in_nI hc16 (by omega), fun z => ?_, fun z => ?_⟩
  · have z : sN A 11 c = 0 := by
      rw [show (0 : Int32) = nI 0 from rfl, nI_leI (by omega) (by omega)] at z
      omega
    refine fin0 ?_
    cases hi : wIdx1 A c with
    | none => rfl
    | some k =>
      obtain ⟨w, hw, hwc⟩ := wIdx1_some hi
      have hcnt := countP_erase (fun w : Nat × Nat × Nat => w.1 == c) (sW A) k w hw
      simp [hwc] at hcnt
      have := hh.2
      omega
  · rw [show (0 : Int32) = nI 0 from rfl]
    refine r_findAt (k := 0) (fun x => decide (lg_cmp (x &&& (15 : Int32).toInt64) (nI c).toInt64 = 0)) (by omega) (fun x _ => by simp) h.W (fun k hk => ?_) (fun hn => ?_)
    · rw [hfe] at hk
      obtain ⟨w, hw, hwc⟩ := wIdx1_some hk
      have hkl := lt_of_get hw
      have hmem := List.mem_of_getElem? hw
      have hcnt := countP_erase (fun w : Nat × Nat × Nat => w.1 == c) (sW A) k w hw
      simp [hwc] at hcnt
      have hpos : 1 ≤ sN A 11 c := by have := hh.2; omega
      have hne : ¬ nI k = -1 := fun z => by
        have := nI_pos' (n := k) (by omega)
        rw [z] at this
        exact absurd this (by decide)
      unfold jn_X2_receive_29
      refine ⟨fun _ => ?_, fun z => absurd z hne⟩
      have hat : ((sW A).map encW)[k]? = some (encW w) := by rw [List.getElem?_map, hw]; rfl
      refine r_at h.W hat (s_day (okW hwf hmem) ?_)
      refine r_removeAt h.W (by rw [List.length_map]; exact hkl) (fun I2 L2 eI eL hr => ?_)
      have h2 : CR o I2 L2 (setW A ((sW A).eraseIdx k)) := h.putW eI eL (by rw [map_erase]; exact hr)
      have f2 : Fr o I L I2 L2 := Fr.row (j := 16) (by omega) eI eL
      have g9 : I o 9 = nI (sN A 0 9) := h.n (nd0 (by omega) (by omega))
      rw [g9]
      refine ⟨vp_in_nI hc16 (by omega), vp_in_nI hc16 (by omega), fun I3 e3 I4 e4 I5 e5 I6 e6 => ?_⟩
      have g11 : I2 (o + 11) c = nI (sN A 11 c) := h2.n (nd11 hc16)
      rw [ix_nI (by omega), g11] at e3
      have e3' : I3 = u2 I2 (o + 11) c (nI (sN A 11 c - 1)) := by
        rw [e3]
        congr 1
        obtain ⟨q, hq⟩ : ∃ q, sN A 11 c = q + 1 := ⟨sN A 11 c - 1, by omega⟩
        rw [hq, nI_pred]
        rfl
      have h3 := h2.putN (nd11 hc16) e3'
      rw [h3.t0 (i := 14) (by omega) (by omega)] at e4
      have h4 := h3.putT0 (i := 14) (by omega) (by omega) e4
      rw [h4.t0 (i := 15) (by omega) (by omega)] at e5
      have h5 := h4.putT0 (i := 15) (by omega) (by omega) e5
      rw [h5.t0 (i := 16) (by omega) (by omega)] at e6
      have h6 := h5.putT0 (i := 16) (by omega) (by omega) e6
      have f6 := (((f2.tr (Fr.uI (L := L2) (j := 11) e3' (by omega))).tr (Fr.uI (L := L2) (j := 0) e4 (by omega))).tr (Fr.uI (L := L2) (j := 0) e5 (by omega))).tr (Fr.uI (L := L2) (j := 0) e6 (by omega))
      refine hQ I6 L2 ?_ f6
      rw [recv_some hk hw]
      exact h6
    · rw [hfe] at hn
      exact fin0 hn
