section LEN1
variable {A : St} {i c q : Nat} {w : Nat × Nat × Nat}
abbrev lendB (A : St) (i c f : Nat) (w : Nat × Nat × Nat) : St :=
  setT (setT (setT (setN (setW A ((sW A).set i (w.1, w.2.1, 1))) 10 f (sN A 10 f - 1)) 12 f (sT A 12 f - 1)) 12 c (u2 (sT A) 12 f (sT A 12 f - 1) 12 c + 1)) 0 17 (sT A 0 17 + 1)
theorem lend1_eq (hc : w.1 = c) : lend1 A i c q w = begW (lendB A i c (4 * q + c % 4) w) 4 c (sN A 6 q + sN A 6 (c / 4)) := by
  unfold lend1
  have e : sT (setT (setT (setN (setW A ((sW A).set i (w.1, w.2.1, 1))) 10 (4 * q + c % 4) (sN A 10 (4 * q + c % 4) - 1)) 12 (4 * q + c % 4) (sT A 12 (4 * q + c % 4) - 1)) 12 c (u2 (sT A) 12 (4 * q + c % 4) (sT A 12 (4 * q + c % 4) - 1) 12 c + 1)) 0 17 = sT A 0 17 := by
    simp [sT, setT, setN, setW, u2_at]
  show begW (setT _ 0 17 (sT (setT (setT (setN (setW A ((sW A).set i (w.1, w.2.1, 1))) 10 (4 * q + c % 4) (sN A 10 (4 * q + c % 4) - 1)) 12 (4 * q + c % 4) (sT A 12 (4 * q + c % 4) - 1)) 12 c (u2 (sT A) 12 (4 * q + c % 4) (sT A 12 (4 * q + c % 4) - 1) 12 c + 1)) 0 17 + 1)) 4 c _ = _
  rw [e]
theorem lendB_ok (hs : SetOk A) (h : DynOk A) (hw : (sW A)[i]? = some w) (hc : w.1 = c) {f : Nat} (hf16 : f < 16) (hpos : 0 < sN A 10 f) : DynX 182 0 (lendB A i c f w) ∧ SetOk (lendB A i c f w) := by
  have e : ∀ j, j ≠ 10 → sN (lendB A i c f w) j = sN A j := fun j h1 => by
    funext i
    simp [sN, setN, u2_at, h1]
  have e10 : ∀ k, k ≠ f → sN (lendB A i c f w) 10 k = sN A 10 k := fun k hk => by simp [sN, setN, u2_at, hk]
  have e10f : sN (lendB A i c f w) 10 f = sN A 10 f - 1 := by simp [sN, setN, u2_at]
  have ht := tot_upd e10 16 hf16
  rw [e10f] at ht
  refine ⟨?_, hs.same (fun j h1 h2 => e j (by omega))⟩
  have hmem := List.mem_of_getElem? hw
  obtain ⟨h1, h2, h3, h4, h5, h6, h7, h8, h9, h10, h11, h12, h13, h14⟩ := h
  have m1 := set_same_map (fun w : Nat × Nat × Nat => w.1) (y := (w.1, w.2.1, 1)) hw rfl
  have m2 := set_same_map (fun w : Nat × Nat × Nat => w.2.1) (y := (w.1, w.2.1, 1)) hw rfl
  unfold TP at h8
  unfold DynX TP
  simp only [vc_eq (e 1 (by omega)), e 1 (by omega), e 7 (by omega), e 0 (by omega), e 11 (by omega), e 13 (by omega)]
  refine ⟨fun k hk => ⟨(h1 k hk).1, ?_⟩, fun k hk hv => ?_, h3, fun x hx => ?_, h5, h6, h7, ?_, h9, h10, h11, h12, h13, ?_⟩
  · rw [(h1 k hk).2]
    show (sW A).countP _ = ((sW A).set i (w.1, w.2.1, 1)).countP _
    have g : ∀ l : List (Nat × Nat × Nat), l.countP (fun w => w.1 == k) = (l.map (fun w => w.1)).countP (fun x => x == k) := fun l => by rw [List.countP_map]; rfl
    rw [g, g, m1]
  · by_cases hkf : k = f
    · rw [hkf, e10f, ← hkf, h2 k hk hv]
    · rw [e10 k hkf]; exact h2 k hk hv
  · rcases List.mem_or_eq_of_mem_set hx with hx | hx
    · exact h4 x hx
    · rw [hx]
      have := h4 w hmem
      exact ⟨this.1, this.2.1, Nat.le_refl _⟩
  · show (sY A).length + (sQ A).length + _ + _ + _ ≤ 182
    omega
  · show ((sW A).set i (w.1, w.2.1, 1)).Pairwise _
    have g : ∀ l : List (Nat × Nat × Nat), l.Pairwise (fun a b => a.2.1 ≤ b.2.1) ↔ (l.map (fun w => w.2.1)).Pairwise (fun a b => a ≤ b) := fun l => List.pairwise_map.symm
    rw [g, m2, ← g]
    exact h14
theorem lend1_ok (hs : SetOk A) (h : DynOk A) (hw : (sW A)[i]? = some w) (hc : w.1 = c) (hl : lendF A c (sN A 1 1) = some q) : SetOk (lend1 A i c q w) ∧ DynOk (lend1 A i c q w) ∧ sN (lend1 A i c q w) 0 10 = sN A 0 10 + 1 ∧ (sW (lend1 A i c q w)).length = (sW A).length ∧ sN (lend1 A i c q w) 0 9 = sN A 0 9 ∧ (∀ j, 1 ≤ j → j ≤ 9 → sN (lend1 A i c q w) j = sN A j) := by
  obtain ⟨f1, f2, f3⟩ := lendF_some _ _ hl
  have hb3 := hs.1.2.1
  have hv : vc A c := hc ▸ (h.2.2.2.1 w (List.mem_of_getElem? hw)).1
  obtain ⟨a1, a2⟩ := lendB_ok hs h hw hc (f := 4 * q + c % 4) (by omega) (by omega)
  have e : ∀ j, j ≠ 10 → sN (lendB A i c (4 * q + c % 4) w) j = sN A j := fun j h1 => by
    funext i
    simp [sN, setN, u2_at, h1]
  have q1 := (hs.2.1 q (by omega)).2.2.2.2
  have hb := (vc_lt hs hv).1
  have q2 := (hs.2.1 (c / 4) (by omega)).2.2.2.2
  have b := a1.beg (k := 4) (c := c) (d := sN A 6 q + sN A 6 (c / 4)) (by omega) (by omega) (fun _ => (vc_eq (e 1 (by omega)) c).mpr hv) (by omega)
  rw [lend1_eq hc]
  refine ⟨a2.same (fun j h1 _ => begW_Nj (by omega)), b, ?_, ?_, ?_, fun j h1 h2 => ?_⟩
  · rw [begW_10, e 0 (by omega)]
  · rw [begW_W]
    show ((sW A).set _ _).length = _
    exact List.length_set
  · rw [begW_9, e 0 (by omega)]
  · rw [begW_Nj (by omega)]
    by_cases hj : j = 10
    · omega
    · exact e j hj
end LEN1
theorem lends_ok : ∀ (n i : Nat) {A : St}, SetOk A → DynOk A → SetOk (lends n i A) ∧ DynOk (lends n i A) ∧ sN (lends n i A) 0 10 ≤ sN A 0 10 + n ∧ sN (lends n i A) 0 9 = sN A 0 9 ∧ (∀ j, 1 ≤ j → j ≤ 9 → sN (lends n i A) j = sN A j)
  | 0, i, A, hs, h => ⟨hs, h, Nat.le_refl _, rfl, fun _ _ _ => rfl⟩
  | n + 1, i, A, hs, h => by
    unfold lends
    cases hw : (sW A)[i]? with
    | none => exact ⟨hs, h, Nat.le_add_right _ _, rfl, fun _ _ _ => rfl⟩
    | some w =>
      simp only
      have step := lends_ok n (i + 1) hs h
      by_cases hm : w.2.2 ≠ 0
      · rw [if_pos hm]
        exact ⟨step.1, step.2.1, by have := step.2.2.1; omega, step.2.2.2⟩
      · rw [if_neg hm]
        cases hl : lendF A w.1 (sN A 1 1) with
        | none => exact ⟨step.1, step.2.1, by have := step.2.2.1; simp only; omega, step.2.2.2⟩
        | some q =>
          simp only
          obtain ⟨a1, a2, a3, a4, a5, a6⟩ := lend1_ok hs h hw rfl hl
          obtain ⟨b1, b2, b3, b4, b5⟩ := lends_ok n (i + 1) a1 a2
          exact ⟨b1, b2, by omega, b4.trans a5, fun j h1 h2 => (b5 j h1 h2).trans (a6 j h1 h2)⟩
theorem lends_none {A : St} (hs : SetOk A) (h : ∀ c, c < 16 → sN A 10 c ≤ sN A 1 3) : ∀ (n i : Nat), lends n i A = A
  | 0, _ => rfl
  | n + 1, i => by
    unfold lends
    cases hw : (sW A)[i]? with
    | none => rfl
    | some w =>
      simp only
      by_cases hm : w.2.2 ≠ 0
      · rw [if_pos hm]; exact lends_none hs h n (i + 1)
      · rw [if_neg hm]
        cases hl : lendF A w.1 (sN A 1 1) with
        | none => exact lends_none hs h n (i + 1)
        | some q =>
          obtain ⟨f1, f2, f3⟩ := lendF_some _ _ hl
          have hb3 := hs.1.2.1
          have := h (4 * q + w.1 % 4) (by omega)
          omega
section CLEND
variable {o : Nat} {I : MI} {L : ML} {A : St}
theorem c_lend {i c q : Nat} {w : Nat × Nat × Nat} {Q : MI → ML → Prop} (h : CR o I L (setW A ((sW A).set i (w.1, w.2.1, 1)))) (hs : SetOk A) (hd : DynOk A) (hw : (sW A)[i]? = some w) (hc : w.1 = c) (hl : lendF A c (sN A 1 1) = some q) (hb : sN A 0 10 < 2 ^ 30) (hQ : ∀ I' L', CR o I' L' (lend1 A i c q w) → Fr o I L I' L' → Q I' L') : wp_X2_lend o I L (nI (4 * q + c % 4)) (nI c) Q := by
  obtain ⟨f1, f2, f3⟩ := lendF_some _ _ hl
  have hb3 := hs.1.2.1
  have hv : vc A c := hc ▸ (hd.2.2.2.1 w (List.mem_of_getElem? hw)).1
  have hc12 := vc_lt hs hv
  have hf16 : 4 * q + c % 4 < 16 := by omega
  have hc16 : c < 16 := by omega
  obtain ⟨a1, a2⟩ := lendB_ok hs hd hw hc hf16 (by omega)
  have q1 := (hs.2.1 q (by omega)).2.2.2.2
  have q2 := (hs.2.1 (c / 4) (by omega)).2.2.2.2
  unfold wp_X2_lend
  rw [ix_nI (by omega), ix_nI (by omega)]
  have w1 : vp_in (nI (4 * q + c % 4)) 16 := vp_in_nI hf16 (by omega)
  have w2 : vp_in (nI c) 16 := vp_in_nI hc16 (by omega)
  refine ⟨w1, w1, fun I3 e3 => ⟨w1, w1, fun I6 e6 => ⟨w2, w2, fun I9 e9 I10 e10 => s_base (by omega) ⟨vp_in_nI (by omega) (by omega), s_base (by omega) ⟨vp_in_nI (by omega) (by omega), ?_⟩⟩⟩⟩⟩
  have g10 : I (o + 10) (4 * q + c % 4) = nI (sN A 10 (4 * q + c % 4)) := h.n (nd10 hf16)
  rw [g10] at e3
  have e3' : I3 = u2 I (o + 10) (4 * q + c % 4) (nI (sN A 10 (4 * q + c % 4) - 1)) := by
    rw [e3]
    congr 1
    obtain ⟨r, hr⟩ : ∃ r, sN A 10 (4 * q + c % 4) = r + 1 := ⟨sN A 10 (4 * q + c % 4) - 1, by omega⟩
    rw [hr, nI_pred]
    rfl
  have h3 := h.putN (nd10 hf16) e3'
  have g12 : I3 (o + 12) (4 * q + c % 4) = sT A 12 (4 * q + c % 4) := h3.2.1 _ hf16
  rw [g12] at e6
  have h6 := h3.putT12 e6
  rw [h6.2.1 c hc16] at e9
  have h9 := h6.putT12 e9
  have g17 : I9 o 17 = sT A 0 17 := by
    rw [h9.t0 (i := 17) (by omega) (by omega)]
    simp [sT, setT, setN, setW, u2_at]
  rw [g17] at e10
  have h10 := h9.putT0 (i := 17) (by omega) (by omega) e10
  have f10 : Fr o I L I10 L := (((Fr.uI (j := 10) e3' (by omega)).tr (Fr.uI (L := L) (j := 12) e6 (by omega))).tr (Fr.uI (L := L) (j := 12) e9 (by omega))).tr (Fr.uI (L := L) (j := 0) e10 (by omega))
  have x6 : ∀ b, b < 4 → I10 (o + 6) b = nI (sN A 6 b) := fun b hb => by
    rw [h10.n (ndp (by omega) (by omega) hb)]
    congr 1
  have hq4 : (4 * q + c % 4) / 4 = q := by omega
  rw [hq4, ix_nI (by omega), ix_nI (by omega), x6 q (by omega), x6 (c / 4) (by omega), nI_add]
  have hyl := a1.yl
  have hb' : sN (lendB A i c (4 * q + c % 4) w) 0 10 < 2 ^ 30 := by
    have : sN (lendB A i c (4 * q + c % 4) w) 0 10 = sN A 0 10 := by simp [sN, setN, u2_at]
    omega
  refine c_beginWay (A := lendB A i c (4 * q + c % 4) w) (kind := 4) h10 (a1.wf a2 hb') (by omega) hc16 (by omega) (by omega) (fun I5 L5 h5 f5 => hQ I5 L5 ?_ (f10.tr f5))
  rw [lend1_eq hc]
  exact h5
theorem c_hasOne {Q : Int32 → Prop} (h : CR o I L A) (hs : SetOk A) (hd : DynOk A) (h1 : Q 1) (h0 : (∀ c, c < 16 → sN A 10 c ≤ sN A 1 3) → Q 0) : wp_X2_hasOneToLend o I Q := by
  have hkeep := hs.1.2.2.2.2.1
  have e13 : I (o + 1) 3 = nI (sN A 1 3) := h.n (nd1 (by omega))
  have key : ∀ (n i : Nat), i + n = 16 → (∀ c, c < i → sN A 10 c ≤ sN A 1 3) → lp_X2_hasOneToLend_2 o I Q (n + 1) (nI i) := by
    intro n
    induction n with
    | zero =>
      intro i hi hb
      have hi : i = 16 := by omega
      subst hi
      unfold lp_X2_hasOneToLend_2
      exact ⟨fun _ => h0 hb, fun z => absurd (by decide) z⟩
    | succ n ih =>
      intro i hi hb
      have hlt : ¬ (16 : Int32) ≤ nI i := by
        rw [show (16 : Int32) = nI 16 from rfl]
        exact nI_ge (by omega) (by omega)
      have hhand := hand_le hd (c := i) (by omega)
      unfold lp_X2_hasOneToLend_2
      refine ⟨fun z => absurd z hlt, fun _ => ⟨vp_in_nI (by omega) (by omega), ?_⟩⟩
      have e10 : I (o + 10) i = nI (sN A 10 i) := h.n (nd10 (by omega))
      rw [ix_nI (by omega), e10, e13]
      refine ⟨fun z => ?_, fun _ => h1⟩
      have z := (nI_leI (by omega) (by omega)).mp z
      rw [nI_1]
      refine ih (i + 1) (by omega) (fun c hc => ?_)
      by_cases hci : c = i
      · rw [hci]; exact z
      · exact hb c (by omega)
  unfold wp_X2_hasOneToLend
  exact ⟨17, key 16 0 rfl (fun c hc => absurd hc (by omega))⟩
theorem c_lendAll {Q : MI → ML → Prop} (h : CR o I L A) (hs : SetOk A) (hd : DynOk A) (hb : sN A 0 10 + 100 < 2 ^ 30) (hQ : ∀ I' L', CR o I' L' (lends (sW A).length 0 A) → Fr o I L I' L' → Q I' L') : wp_X2_lendAll o I L Q := by
  have key : ∀ (n i : Nat) (A : St) (I : MI) (L : ML), CR o I L A → SetOk A → DynOk A → i + n = (sW A).length → sN A 0 10 + n < 2 ^ 30 → (∀ I' L', CR o I' L' (lends n i A) → Fr o I L I' L' → Q I' L') → lp_X2_lendAll_20 o Q (n + 1) (nI i) I L := by
    intro n
    induction n with
    | zero =>
      intro i A I L h hs hd hi hb hQ
      have eW := h.W.1
      have hsz := h.W.sz
      rw [List.length_map] at eW hsz
      unfold lp_X2_lendAll_20
      rw [eW]
      exact ⟨fun _ => hQ I L h Fr.rf, fun z => absurd (nI_le (by omega) (by omega)) z⟩
    | succ n ih =>
      intro i A I L h hs hd hi hb hQ
      have eW := h.W.1
      have hsz := h.W.sz
      rw [List.length_map] at eW hsz
      have hil : i < (sW A).length := by omega
      obtain ⟨w, hw⟩ : ∃ w, (sW A)[i]? = some w := ⟨_, List.getElem?_eq_getElem hil⟩
      have hmem := List.mem_of_getElem? hw
      have hwf := hd.wf hs (by omega)
      have hok := okW hwf hmem
      have hmk := (hd.2.2.2.1 w hmem).2.2
      have hv := (hd.2.2.2.1 w hmem).1
      have hat : ((sW A).map encW)[i]? = some (encW w) := by rw [List.getElem?_map, hw]; rfl
      unfold lp_X2_lendAll_20
      rw [eW]
      refine ⟨fun z => absurd z (nI_ge (by omega) (by omega)), fun _ => r_at h.W hat (s_mark hok ⟨fun z => ?_, fun z => ?_⟩)⟩
      · have z : w.2.2 ≠ 0 := fun q => z (by rw [q]; rfl)
        unfold jn_X2_lendAll_94
        rw [nI_1]
        refine ih (i + 1) A I L h hs hd (by omega) (by omega) (fun I' L' h' f' => hQ I' L' ?_ f')
        unfold lends
        rw [hw]
        simp only
        rw [if_pos z]
        exact h'
      · have z : w.2.2 = 0 := (nI_eq (b := 0) (by omega) (by omega)).mp z
        refine s_place hok (c_lenderFor h hs hd hv (fun q hq => ⟨fun g => ?_, fun _ => s_day hok ?_⟩) (fun hn => ⟨fun _ => ?_, fun g => absurd rfl g⟩))
        · exfalso
          have := nI_pos' (n := 4 * q + w.1 % 4) (by have := (lendF_some _ _ hq).1; have := hs.1.2.1; omega)
          rw [g] at this
          exact absurd this (by decide)
        · have hok2 : okE w.2.1 0 1 w.1 := ⟨hok.1, by omega, by omega, hok.2.2.2⟩
          refine s_of (n := 0) (m := 1) hok2 ?_
          refine r_put h.W (by rw [List.length_map]; exact hil) (fun L2 eL hr => ?_)
          have hL2 : ∀ k, k ≠ o + 16 + 1 → L2 k = L k := fun k hk => by rw [eL]; exact u2_ne hk
          have h2 : CR o I L2 (setW A ((sW A).set i (w.1, w.2.1, 1))) := h.putWL hL2 (by rw [List.map_set]; exact hr)
          have f2 : Fr o I L I L2 := fun k hk => ⟨rfl, hL2 k (by omega)⟩
          refine c_lend h2 hs hd hw rfl hq (by omega) (fun I3 L3 h3 f3 => ?_)
          obtain ⟨a1, a2, a3, a4, a5, a6⟩ := lend1_ok hs hd hw rfl hq
          unfold jn_X2_lendAll_94
          rw [nI_1]
          refine ih (i + 1) _ I3 L3 h3 a1 a2 (by omega) (by omega) (fun I' L' h' f' => hQ I' L' ?_ ((f2.tr f3).tr f'))
          unfold lends
          rw [hw]
          simp only
          rw [if_neg (by omega), hq]
          exact h'
        · unfold jn_X2_lendAll_94
          rw [nI_1]
          refine ih (i + 1) A I L h hs hd (by omega) (by omega) (fun I' L' h' f' => hQ I' L' ?_ f')
          unfold lends
          rw [hw]
          simp only
          rw [if_neg (by omega), hn]
          exact h'
  have eW := h.W.1
  have hsz := h.W.sz
  have h72 := h.W.2.1
  rw [List.length_map] at eW hsz h72
  unfold wp_X2_lendAll
  rw [eW]
  refine ⟨fun z => ?_, fun _ => c_hasOne h hs hd ⟨fun _ => ⟨(sW A).length + 1, ?_⟩, fun z => absurd z (by decide)⟩ (fun hno => ⟨fun z => absurd rfl z, fun _ => ?_⟩)⟩
  · have z : (sW A).length = 0 := (nI_eq (b := 0) (by omega) (by omega)).mp z
    refine hQ I L ?_ Fr.rf
    rw [z]
    exact h
  · rw [← nI_0]
    exact key (sW A).length 0 A I L h hs hd (by omega) (by omega) hQ
  · refine hQ I L ?_ Fr.rf
    rw [lends_none hs hno]
    exact h
end CLEND
