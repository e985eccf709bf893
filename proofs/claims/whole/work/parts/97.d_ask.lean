/-! what is asked, side by side -/
theorem i1 {c P R : Prop} (hc : c) (h : P) : (c → P) ∧ (¬ c → R) := ⟨fun _ => h, fun z => absurd hc z⟩
theorem i0 {c P R : Prop} (hc : ¬ c) (h : R) : (c → P) ∧ (¬ c → R) := ⟨fun z => absurd z hc, fun _ => h⟩
theorem j1 {c P R : Prop} (hc : c) (h : P) : (¬ c → R) ∧ (c → P) := ⟨fun z => absurd hc z, fun _ => h⟩
theorem j0 {c P R : Prop} (hc : ¬ c) (h : R) : (¬ c → R) ∧ (c → P) := ⟨fun _ => h, fun z => absurd z hc⟩
theorem o1 : ¬ (1 : Int32) = 0 := by decide
theorem neg1 {q : Nat} (h : q < 2 ^ 31) : ¬ nI q < -1 := fun z => by
  have := Int32.lt_iff_toInt_lt.mp z
  rw [nI_toInt h] at this
  have e : (-1 : Int32).toInt = -1 := by decide
  omega
section ASKB
variable {k : Nat} {I : MI} {L : ML} {A : St} {U : List St} {t : Nat → Nat} {n : Nat} {Y : List (Nat × Nat × Nat × Nat)} {a b : Int32}
theorem Iv.up (h : Iv k I L) : Iv (k + 1) I L := by
  obtain ⟨A, U, t, n, hc, hr, hp, hu⟩ := h
  exact ⟨A, U, t, n, hc, hr, hp.up, PGs_up hu⟩
abbrev IC (A : St) (a b : Int32) : Prop := isIx a (sN A 1 1) ∧ isIx b (sN A 1 0)
theorem cY {b p : Nat} {Q : Int32 → Prop} (h : CR 2 I L A) (hs : SetOk A) (hb : b < sN A 1 1) (hp : p < sN A 1 0) (hQ : Q 1) : wp_X1_hasCell 3 I (nI b) (nI p) Q :=
  c_hasCell h.pr hs (fun _ _ _ _ _ _ => hQ) (fun z => absurd ⟨⟨b, hb, rfl⟩, ⟨p, hp, rfl⟩⟩ z)
theorem cN {Q : Int32 → Prop} (h : CR 2 I L A) (hs : SetOk A) (hn : ¬ IC A a b) (hQ : Q 0) : wp_X1_hasCell 3 I a b Q :=
  c_hasCell h.pr hs (fun b p hb hp ea ep => absurd ⟨⟨b, hb, ea⟩, ⟨p, hp, ep⟩⟩ hn) (fun _ => hQ)
theorem rY {b p : Nat} {Q : Int32 → Prop} (h : RR I A Y) (hs : SetOk A) (hb : b < sN A 1 1) (hp : p < sN A 1 0) (hQ : Q 1) : wp_X10_isCell I (nI b) (nI p) Q :=
  r_isCell h hs (fun _ _ _ _ _ _ => hQ) (fun z => absurd ⟨⟨b, hb, rfl⟩, ⟨p, hp, rfl⟩⟩ z)
theorem rN {Q : Int32 → Prop} (h : RR I A Y) (hs : SetOk A) (hn : ¬ IC A a b) (hQ : Q 0) : wp_X10_isCell I a b Q :=
  r_isCell h hs (fun b p hb hp ea ep => absurd ⟨⟨b, hb, ea⟩, ⟨p, hp, ep⟩⟩ hn) (fun _ => hQ)
theorem pY {p : Nat} {Q : Int32 → Prop} (h : CR 2 I L A) (hs : SetOk A) (hp : p < sN A 1 0) (hQ : Q 1) : wp_X1_hasPart 3 I (nI p) Q :=
  c_hasPart h.pr hs.1.1 (fun _ => hQ) (fun z => absurd ⟨p, hp, rfl⟩ z)
theorem pN {Q : Int32 → Prop} (h : CR 2 I L A) (hs : SetOk A) (hn : ¬ isIx a (sN A 1 0)) (hQ : Q 0) : wp_X1_hasPart 3 I a Q :=
  c_hasPart h.pr hs.1.1 (fun z => absurd z hn) (fun _ => hQ)
theorem qY {p : Nat} {Q : Int32 → Prop} (h : RR I A Y) (hs : SetOk A) (hp : p < sN A 1 0) (hQ : Q 1) : wp_X10_isPart I (nI p) Q :=
  r_isPart h hs (fun _ => hQ) (fun z => absurd ⟨p, hp, rfl⟩ z)
theorem qN {Q : Int32 → Prop} (h : RR I A Y) (hs : SetOk A) (hn : ¬ isIx a (sN A 1 0)) (hQ : Q 0) : wp_X10_isPart I a Q :=
  r_isPart h hs (fun z => absurd z hn) (fun _ => hQ)
theorem vc_of (hs : SetOk A) {b p : Nat} (hb : b < sN A 1 1) (hp : p < sN A 1 0) : vc A (4 * b + p) ∧ b < 3 ∧ p < 3 := by
  have h1 := hs.1.1
  have h2 := hs.1.2.1
  unfold vc
  omega
theorem a_part {Q : Int32 → Prop} (hk : k ≤ 512) (h : Iv k I L) (hQ : ∀ x, (∀ Q2 : Int32 → Prop, Q2 x → wp_X10_part I a b Q2) → Q x) : wp_X9_part I L a b Q := by
  obtain ⟨A, U, t, n, hc, ⟨⟨Y, hY⟩, hr⟩, hp, hu⟩ := h
  by_cases hv : isIx a (sN A 1 0)
  · obtain ⟨p, hp', rfl⟩ := hv
    exact c_part hc.1 hp.1.1 hp.1.2.1 (hp.wf hk) hp' (hQ _ (fun Q2 h2 => r_part hY hp.1.1 hp.1.2.1 hp' h2))
  · unfold wp_X9_part
    refine pN hc.1 hp.1.1 hv (j1 rfl (hQ _ (fun Q2 h2 => ?_)))
    unfold wp_X10_part
    exact qN hY hp.1.1 hv (by first | exact j1 rfl h2 | exact i1 rfl h2)
theorem a_base {Q : Int32 → Prop} (hk : k ≤ 512) (h : Iv k I L) (hQ : ∀ x, (∀ Q2 : Int32 → Prop, Q2 x → wp_X10_base I a b Q2) → Q x) : wp_X9_base I L a b Q := by
  obtain ⟨A, U, t, n, hc, ⟨⟨Y, hY⟩, hr⟩, hp, hu⟩ := h
  by_cases hv : isIx a (sN A 1 1)
  · obtain ⟨p, hp', rfl⟩ := hv
    exact c_base hc.1 hp.1.1 hp.1.2.1 (hp.wf hk) hp' (hQ _ (fun Q2 h2 => r_base hY hp.1.1 hp.1.2.1 (hp.wf hk) hp' h2))
  · unfold wp_X9_base
    refine c_hasBase hc.1.pr hp.1.1.1.2.1 (fun z => absurd z hv) (fun _ => j1 rfl (hQ _ (fun Q2 h2 => ?_)))
    unfold wp_X10_base
    exact r_isBase hY hp.1.1 (fun z => absurd z hv) (fun _ => by first | exact j1 rfl h2 | exact i1 rfl h2)
theorem a_cell {c : Int32} {Q : Int32 → Prop} (hk : k ≤ 512) (h : Iv k I L) (hQ : ∀ x, (∀ Q2 : Int32 → Prop, Q2 x → wp_X10_cell I a b c Q2) → Q x) : wp_X9_cell I L a b c Q := by
  obtain ⟨A, U, t, n, hc, ⟨⟨Y, hY⟩, hr⟩, hp, hu⟩ := h
  by_cases hv : IC A a b
  · obtain ⟨⟨b', hb, rfl⟩, ⟨p, hp', rfl⟩⟩ := hv
    exact c_cell hc.1 hp.1.1 hp.1.2.1 (hp.wf hk) hb hp' (hQ _ (fun Q2 h2 => r_cell hY hp.1.1 hp.1.2.1 (hp.wf hk) hb hp' h2))
  · unfold wp_X9_cell
    refine cN hc.1 hp.1.1 hv (j1 rfl ?_)
    by_cases h8 : c = 8
    · first
        | refine i1 h8 (hQ _ (fun Q2 h2 => ?_))
        | refine j1 h8 (hQ _ (fun Q2 h2 => ?_))
      unfold wp_X10_cell
      exact rN hY hp.1.1 hv (by first | exact j1 rfl (by first | exact i1 h8 h2 | exact j1 h8 h2) | exact i1 rfl (by first | exact i1 h8 h2 | exact j1 h8 h2))
    · first
        | refine i0 h8 (hQ _ (fun Q2 h2 => ?_))
        | refine j0 h8 (hQ _ (fun Q2 h2 => ?_))
      unfold wp_X10_cell
      exact rN hY hp.1.1 hv (by first | exact j1 rfl (by first | exact i0 h8 h2 | exact j0 h8 h2) | exact i1 rfl (by first | exact i0 h8 h2 | exact j0 h8 h2))
theorem a_want {Q : Int32 → Prop} (hk : k ≤ 512) (h : Iv k I L) (hQ : ∀ x, (∀ Q2 : Int32 → Prop, Q2 x → wp_X10_want I a b Q2) → Q x) : wp_X9_want I L a b Q := by
  obtain ⟨A, U, t, n, hc, ⟨⟨Y, hY⟩, hr⟩, hp, hu⟩ := h
  refine c_want hc.1 (hp.wf hk) (fun q w e hw => hQ _ (fun Q2 h2 => r_want hY (fun q' w' e' hw' => ?_) (fun z => absurd ⟨q, lt_of_get hw, e⟩ z))) (fun z => hQ _ (fun Q2 h2 => r_want hY (fun q' w' e' hw' => absurd ⟨q', lt_of_get hw', e'⟩ z) (fun _ => h2)))
  have l1 := lt_of_get hw
  have l2 := lt_of_get hw'
  have := wlen72 hp.1.1 hp.1.2.1
  have eq : q' = q := (nI_eq (by omega) (by omega)).mp (e'.symm.trans e)
  subst eq
  rw [hw] at hw'
  cases hw'
  exact h2
theorem a_waits {Q : Int32 → Prop} (hk : k ≤ 512) (h : Iv k I L) (hQ : ∀ x, (∀ Q2 : Int32 → Prop, Q2 x → wp_X10_waits I a Q2) → Q x) : wp_X9_waits I L a Q := by
  obtain ⟨A, U, t, n, hc, ⟨⟨Y, hY⟩, hr⟩, hp, hu⟩ := h
  refine c_waits hc.1 hp.1.1 hp.1.2.1 (hp.wf hk) (fun q w e hw => hQ _ (fun Q2 h2 => r_waits hY (fun q' w' e' hw' => ?_) (fun z => absurd ⟨q, lt_of_get hw, e⟩ z))) (fun z => hQ _ (fun Q2 h2 => r_waits hY (fun q' w' e' hw' => absurd ⟨q', lt_of_get hw', e'⟩ z) (fun _ => h2)))
  have l1 := lt_of_get hw
  have l2 := lt_of_get hw'
  have := hY.2.2.2.2.2.2.2.2.2.2
  have eq : q' = q := (nI_eq (by omega) (by omega)).mp (e'.symm.trans e)
  subst eq
  rw [hw] at hw'
  cases hw'
  exact h2
theorem a_way {Q : Int32 → Prop} (hk : k ≤ 512) (h : Iv k I L) (hQ : ∀ x, (∀ Q2 : Int32 → Prop, Q2 x → wp_X10_way I a b Q2) → Q x) : wp_X9_way I L a b Q := by
  obtain ⟨A, U, t, n, hc, ⟨⟨Y, hY⟩, hr⟩, hp, hu⟩ := h
  refine c_way hc.1 (hp.wf hk) (fun y hy => (hp.1.2.1.2.2.2.2.2.1 y hy).1) (fun q w e hw => hQ _ (fun Q2 h2 => r_way hY (hp.wf hk) (fun q' w' e' hw' => ?_) (fun z => absurd ⟨q, lt_of_get hw, e⟩ z))) (fun z => hQ _ (fun Q2 h2 => r_way hY (hp.wf hk) (fun q' w' e' hw' => absurd ⟨q', lt_of_get hw', e'⟩ z) (fun _ => h2)))
  have l1 := lt_of_get hw
  have l2 := lt_of_get hw'
  have := hp.1.2.1.yl
  have eq : q' = q := (nI_eq (by omega) (by omega)).mp (e'.symm.trans e)
  subst eq
  rw [hw] at hw'
  cases hw'
  exact h2
theorem a_call {c : Int32} {Q : Int32 → Prop} (hk : k ≤ 512) (h : Iv k I L) (hQ : ∀ x, (∀ Q2 : Int32 → Prop, Q2 x → wp_X10_call I a b c Q2) → Q x) : wp_X9_call I L a b c Q := by
  obtain ⟨A, U, t, n, hc, ⟨⟨Y, hY⟩, hr⟩, hp, hu⟩ := h
  by_cases hv : isIx a (sN A 1 0)
  · obtain ⟨p, hp', rfl⟩ := hv
    refine c_call hc.1 hp.1.1 (hp.wf hk) hp' ⟨fun q j w hq e hf hw => hQ _ (fun Q2 h2 => r_call hY hp.1.1 hp' ⟨fun q' j' w' hq' e' hf' hw' => ?_, fun z => ?_⟩), fun z => hQ _ (fun Q2 h2 => r_call hY hp.1.1 hp' ⟨fun q' j' w' hq' e' hf' hw' => ?_, fun _ => h2⟩)⟩
    · have eq : q' = q := (nI_eq hq' hq).mp (e'.symm.trans e)
      subst eq
      rw [hf] at hf'
      cases hf'
      rw [hw] at hw'
      cases hw'
      exact h2
    · rcases z with z | ⟨q', hq', e', hf'⟩
      · rw [e] at z
        exact absurd z (nI_pos hq)
      · have eq : q' = q := (nI_eq hq' hq).mp (e'.symm.trans e)
        subst eq
        rw [hf] at hf'
        cases hf'
    · rcases z with z | ⟨q, hq, e, hf⟩
      · rw [e'] at z
        exact absurd z (nI_pos hq')
      · have eq : q' = q := (nI_eq hq' hq).mp (e'.symm.trans e)
        subst eq
        rw [hf] at hf'
        cases hf'
  · unfold wp_X9_call
    refine pN hc.1 hp.1.1 hv (j1 rfl (hQ _ (fun Q2 h2 => ?_)))
    unfold wp_X10_call
    exact qN hY hp.1.1 hv (by first | exact j1 rfl h2 | exact i1 rfl h2)
theorem a_played {Q : Int32 → Prop} (hk : k ≤ 512) (h : Iv k I L) (hQ : ∀ x, (∀ Q2 : Int32 → Prop, Q2 x → wp_X10_played I a Q2) → Q x) : wp_X9_played I L a Q := by
  obtain ⟨A, U, t, n, hc, ⟨⟨Y, hY⟩, hr⟩, hp, hu⟩ := h
  unfold wp_X9_played
  exact c_tell hc.1 (hp.wf hk) hp.1.2.1 (hQ _ (fun Q2 h2 => r_played hY h2))
theorem a_count {Q : Int32 → Prop} (h : Iv k I L) (hQ : ∀ x, (∀ Q2 : Int32 → Prop, Q2 x → wp_X10_count I a Q2) → Q x) : wp_X9_count I a Q := by
  obtain ⟨A, U, t, n, hc, ⟨⟨Y, hY⟩, hr⟩, hp, hu⟩ := h
  obtain ⟨nx, -, -, hl, -⟩ := hc.2.1
  exact c_count hc.1 hl hc.2.2.2.1 (hQ _ (fun Q2 h2 => r_count hY hp.1.1 hr.1.1 hr.2.1 h2))
theorem a_spell {Q : Int32 → MI → Prop} (h : Iv k I L) (hQ : ∀ x I', (∀ Q2 : Int32 → MI → Prop, (∀ I'', Iv (k + 1) I'' L → Q2 x I'') → wp_X10_spell I' a Q2) → Q x I') : wp_X9_spell I a Q := by
  obtain ⟨A, U, t, n, hc, hr, hp, hu⟩ := h
  have h1 : ∀ I', FS I I' → VC I' L A U t n := fun I' f => ⟨hc.1.frame (fun q a b => ⟨f.1 q (by omega) (by omega), rfl⟩), hc.2.1.frame (fun q a b => ⟨f.1 q (by omega) (by omega), rfl⟩), hc.2.2.1.fr1 (f.1 1 (by omega) (by omega)), by rw [f.1 0 (by omega) (by omega)]; exact hc.2.2.2.1, hc.2.2.2.2.fr (fun j a b => f.1 j (by omega) (by omega)) (fun j a b => rfl)⟩
  have h2 : ∀ I', FS I I' → HC I I' := fun I' f j hj => f.1 j (by omega) (by omega)
  have h3 : ∀ I' I'', VR I' A U t n → FM I' I'' → VR I'' A U t n ∧ LC I' I'' := fun I' I'' v f => ⟨⟨by obtain ⟨Y, hY⟩ := v.1; exact ⟨Y, hY.cg (f.1 337 (by omega) (by omega))⟩, v.2.1.fr (f.2 4 (by omega)) (f.1 339 (by omega) (by omega)), by rw [f.2 6 (by omega)]; exact v.2.2.1, by rw [f.1 340 (by omega) (by omega)]; exact v.2.2.2⟩, fun j hj => f.1 j (by omega) (by omega)⟩
  have fin : ∀ I' x, FS I I' → spV1 A a (fun y => y = x) → ∀ Q2 : Int32 → MI → Prop, (∀ I'', Iv (k + 1) I'' L → Q2 x I'') → wp_X10_spell I' a Q2 := by
    intro I' x f hx Q2 g
    obtain ⟨Y, hY⟩ := (hr.fr (h2 I' f)).1
    have gg : ∀ I'', FM I' I'' → Q2 x I'' := fun I'' f2 => g I'' (Iv.mk' (h1 I' f) (h3 I' I'' (hr.fr (h2 I' f)) f2).1 (h3 I' I'' (hr.fr (h2 I' f)) f2).2 hp.up (PGs_up hu))
    refine r_spell hY hp.1.1 hp.2.1 (fun I'' f2 => ?_) (fun z => by have := hx.2.2.2 z; rw [this]; exact gg I' FM.rf)
    exact ⟨fun e => by rw [hx.1 e]; exact gg I'' f2, fun q y e hq => by rw [hx.2.1 q y e hq]; exact gg I'' f2, fun q hq e hl => by rw [hx.2.2.1 q hq e hl]; exact gg I'' f2, fun e => by rw [hx.2.2.2 e]; exact gg I'' f2⟩
  have hlen := spL_len hp.1.1 hp.2.1
  have m1 : ¬ (-1 : Int32) < -1 := by decide
  refine c_spell hc.1.pr hp.1.1 hp.2.1 (fun I' f => ⟨fun e => hQ _ _ (fin I' _ f ⟨fun _ => rfl, fun q y e' hq => ?_, fun q hq e' hl => ?_, fun z => ?_⟩), fun q y e hq => hQ _ _ (fin I' _ f ⟨fun e' => ?_, fun q' y' e' hq' => ?_, fun q' hq' e' hl => ?_, fun z => ?_⟩), fun q hq e hl => hQ _ _ (fin I' _ f ⟨fun e' => ?_, fun q' y' e' hq' => ?_, fun q' hq' e' hl => rfl, fun z => ?_⟩), fun z => hQ _ _ (fin I' _ f ⟨fun e' => ?_, fun q' y' e' hq' => ?_, fun q' hq' e' hl => ?_, fun _ => rfl⟩)⟩) (fun z => hQ _ _ (fin I _ FS.rf ⟨fun e' => ?_, fun q' y' e' hq' => ?_, fun q' hq' e' hl => ?_, fun _ => rfl⟩))
  · exact absurd (e'.symm.trans e) (nI_nm (by have := lt_of_get hq; omega))
  · exact absurd (e'.symm.trans e) (nI_nm hq)
  · rw [e] at z; exact absurd z m1
  · exact absurd (e.symm.trans e') (nI_nm (by have := lt_of_get hq; omega))
  · have l1 := lt_of_get hq
    have l2 := lt_of_get hq'
    have eq : q' = q := (nI_eq (by omega) (by omega)).mp (e'.symm.trans e)
    subst eq
    rw [hq] at hq'
    cases hq'
    rfl
  · have l1 := lt_of_get hq
    have eq : q' = q := (nI_eq hq' (by omega)).mp (e'.symm.trans e)
    omega
  · rw [e] at z; exact absurd z (neg1 (by have := lt_of_get hq; omega))
  · exact absurd (e.symm.trans e') (nI_nm hq)
  · have l2 := lt_of_get hq'
    have eq : q' = q := (nI_eq (by omega) hq).mp (e'.symm.trans e)
    omega
  · rw [e] at z; exact absurd z (neg1 hq)
  · rw [e'] at z; exact absurd z m1
  · rw [e'] at z; exact absurd z (neg1 (by have := lt_of_get hq'; omega))
  · rw [e'] at z; exact absurd z (neg1 hq')
  · rw [e'] at z; exact absurd z m1
  · rw [e'] at z; exact absurd z (neg1 (by have := lt_of_get hq'; omega))
  · rw [e'] at z; exact absurd z (neg1 hq')
end ASKB
