/-! the reference's runs: the draw stands in its field 13 -/
def RG (I I' : MI) : Prop := (∀ k, k ≠ 336 → k ≠ 337 → I' k = I k) ∧ ∀ i, i ≠ 13 → I' 336 i = I 336 i
theorem RG.rf {I : MI} : RG I I := ⟨fun _ _ _ => rfl, fun _ _ => rfl⟩
theorem RG.tr {I J K : MI} (h : RG I J) (h2 : RG J K) : RG I K := ⟨fun k a b => (h2.1 k a b).trans (h.1 k a b), fun i hi => (h2.2 i hi).trans (h.2 i hi)⟩
theorem RF.g {I I' : MI} (h : RF I I') : RG I I' := ⟨fun k _ b => h k b, fun i _ => by rw [h 336 (by omega)]⟩
theorem RG.x {I I' : MI} {v : Int32} (e : I' = u2 I 336 13 v) : RG I I' := ⟨fun k a _ => by rw [e, u2_ne a], fun i hi => by rw [e, u2_n2 hi]⟩
theorem RR.cg {I I' : MI} {A : St} {Y : List (Nat × Nat × Nat × Nat)} (h : RR I A Y) (e : I' 337 = I 337) : RR I' A Y := by
  unfold RR at h ⊢
  rw [e]
  exact h
theorem r_canBreak' {I : MI} {A : St} {Y : List (Nat × Nat × Nat × Nat)} {b p : Nat} {Q : Int32 → Prop} (hp : p < 4) (h : RR I A Y) (hs : SetOk A) (hd : DynOk A) (hc : vc A (4 * b + p)) (hQ : canBr A (4 * b + p) → Q 1) (hQ0 : ¬ canBr A (4 * b + p) → Q 0) : wp_X10_canBreak I (nI b) (nI p) Q := by
  have := r_canBreak (c := 4 * b + p) (Q := Q) h hs hd hc hQ hQ0
  rwa [show (4 * b + p) / 4 = b by omega, show (4 * b + p) % 4 = p by omega] at this
theorem r_breaksOne' {I : MI} {A : St} {b p : Nat} {Q : Int32 → MI → Prop} (hp : p < 4) (h : ∃ Y, RR I A Y) (hs : SetOk A) (hd : DynOk A) (hv : vc A (4 * b + p)) (hc : canBr A (4 * b + p)) (hQ : ∀ I', (∃ Y, RR I' (brk A (4 * b + p)) Y) → RF I I' → Q (nI (sN A 0 10)) I') : wp_X10_breaksOne I (nI b) (nI p) Q := by
  have := r_breaksOne (c := 4 * b + p) (Q := Q) h hs hd hv hc hQ
  rwa [show (4 * b + p) / 4 = b by omega, show (4 * b + p) % 4 = p by omega] at this
theorem r_comes' {I : MI} {A : St} {b p : Nat} {t s : Nat} {Q : MI → Prop} (hp : p < 4) (h : ∃ Y, RR I A Y) (hs : SetOk A) (hd : DynX t s A) (hc : vc A (4 * b + p)) (hQ : ∀ I', (∃ Y, RR I' (recv A (4 * b + p)) Y) → RF I I' → Q I') : wp_X10_comes I (nI b) (nI p) Q := by
  have := r_comes (c := 4 * b + p) (Q := Q) h hs hd hc hQ
  rwa [show (4 * b + p) / 4 = b by omega, show (4 * b + p) % 4 = p by omega] at this
theorem r_drawP {f : Int32 → Int32 × Int32} (hf : ∀ x, f x = fxx x) {b : Nat} {kf : MI → Prop} : ∀ (n p : Nat) (x : Int32) (A : St) (I : MI), I 336 13 = x → (∃ Y, RR I A Y) → Good A → b < sN A 1 1 → p + n = sN A 1 0 → (∀ I', I' 336 13 = (drawP f n b p (x, A)).1 → (∃ Y, RR I' (drawP f n b p (x, A)).2 Y) → RG I I' → kf I') → lp_X10_runs_39 (nI b) kf (n + 1) (nI p) I := by
  intro n
  induction n with
  | zero =>
    intro p x A I hx h hg hb hp hk
    obtain ⟨Y, h⟩ := h
    have h3 := hg.1.1.1
    have e : I 337 0 = nI (sN A 1 0) := h.n (j := 1) (i := 0) (by decide)
    unfold lp_X10_runs_39
    rw [show ix 0 = 0 from by decide, e]
    exact ⟨v0, fun _ => hk I hx ⟨Y, h⟩ RG.rf, fun z => absurd (nI_le (by omega) (by omega)) z⟩
  | succ n ih =>
    intro p x A I hx h hg hb hp hk
    obtain ⟨Y, h⟩ := h
    have h3 := hg.1.1.1
    have h4 := hg.1.1.2.1
    have e : I 337 0 = nI (sN A 1 0) := h.n (j := 1) (i := 0) (by decide)
    have hp4 : p < 4 := by omega
    have hv : vc A (4 * b + p) := ⟨by omega, by omega⟩
    obtain ⟨a1, a2, a3, a4⟩ := draw1_ok (x := (f x).2) hg hv
    have e1 := a2 1 (by omega) (by omega)
    unfold lp_X10_runs_39
    rw [show ix 0 = 0 from by decide, e]
    refine ⟨v0, fun z => absurd z (nI_ge (by omega) (by omega)), fun _ I8 e8 => r_cellOf ?_⟩
    have g8 : I8 337 = I 337 := by rw [e8, u2_ne (by omega)]
    have h8 : RR I8 A Y := h.cg g8
    have x8 : I8 336 13 = (f x).1 := by rw [e8, u2_s, hx, hf]; rfl
    have hf2 : usr (I8 336 13) 8 - usr (I8 336 13) 8 / 12 * 12 = (f x).2 := by rw [x8, hf]; rfl
    have g41 : I8 337 (41 + (3 * b + p)) = nI (sN A 8 (4 * b + p)) := by
      rw [← ri8 hp4]
      exact h8.n (rdc (by omega) (by omega) (by omega) (by omega))
    have nxt : ∀ (I1 : MI), (∃ Y, RR I1 (draw1 A (f x).2 (4 * b + p)) Y) → RF I8 I1 → jn_X10_runs_114 I1 (nI p) (fun x12 I13 => (lp_X10_runs_39 (nI b) kf (n + 1) x12 I13)) := by
      intro I1 h1 f1
      unfold jn_X10_runs_114
      rw [nI_1]
      refine ih (p + 1) (f x).1 _ I1 (by rw [f1 336 (by omega)]; exact x8) h1 a1 (by rw [e1]; exact hb) (by rw [e1]; omega) (fun I' x' h' f' => hk I' x' h' (((RG.x e8).tr f1.g).tr f'))
    rw [hf2, show (41 : Int32) + nI (3 * b + p) = nI (41 + (3 * b + p)) from nI_add 41 _, ix_nI (by omega), g41]
    refine ⟨vp_in_nI (by omega) (by omega), fun z => ?_, fun z => ?_⟩
    · refine nxt I8 ⟨Y, ?_⟩ RF.rf
      unfold draw1
      rw [if_pos z]
      exact h8
    · refine r_canBreak' hp4 h8 hg.1 hg.2.1 hv (fun q => ⟨fun w => absurd w (by decide), fun _ => ?_⟩) (fun q => ⟨fun _ => ?_, fun w => absurd rfl w⟩)
      · refine r_breaksOne' hp4 ⟨Y, h8⟩ hg.1 hg.2.1 hv q (fun I1 h1 f1 => ?_)
        refine nxt I1 ?_ f1
        unfold draw1
        rw [if_neg z, if_pos (show sN A 11 (4 * b + p) < sN A 7 (4 * b + p) from q)]
        exact h1
      · refine nxt I8 ⟨Y, ?_⟩ RF.rf
        unfold draw1
        rw [if_neg z, if_neg (show ¬ sN A 11 (4 * b + p) < sN A 7 (4 * b + p) from q)]
        exact h8
theorem r_drawB {f : Int32 → Int32 × Int32} (hf : ∀ x, f x = fxx x) {kf : MI → Prop} : ∀ (n b : Nat) (x : Int32) (A : St) (I : MI), I 336 13 = x → (∃ Y, RR I A Y) → Good A → b + n = sN A 1 1 → (∀ I', I' 336 13 = (drawB f n b (x, A)).1 → (∃ Y, RR I' (drawB f n b (x, A)).2 Y) → RG I I' → kf I') → lp_X10_runs_25 kf (n + 1) (nI b) I := by
  intro n
  induction n with
  | zero =>
    intro b x A I hx h hg hb hk
    obtain ⟨Y, h⟩ := h
    have h3 := hg.1.1.2.1
    have e : I 337 1 = nI (sN A 1 1) := h.n (j := 1) (i := 1) (by decide)
    unfold lp_X10_runs_25
    rw [show ix 1 = 1 from by decide, e]
    exact ⟨v1, fun _ => hk I hx ⟨Y, h⟩ RG.rf, fun z => absurd (nI_le (by omega) (by omega)) z⟩
  | succ n ih =>
    intro b x A I hx h hg hb hk
    have h4 := hg.1.1.2.1
    have e : I 337 1 = nI (sN A 1 1) := by
      obtain ⟨Y, h⟩ := h
      exact h.n (j := 1) (i := 1) (by decide)
    obtain ⟨a1, a2, a3, a4⟩ := drawP_ok f (sN A 1 0) b 0 (x, A) hg (by simp only; omega) (by simp only; omega)
    have e1 := a2 1 (by omega) (by omega)
    simp only at a1 a2 a3 a4 e1
    unfold lp_X10_runs_25
    rw [show ix 1 = 1 from by decide, e]
    refine ⟨v1, fun z => absurd z (nI_ge (by omega) (by omega)), fun _ => ⟨sN A 1 0 + 1, ?_⟩⟩
    rw [← nI_0]
    refine r_drawP hf (sN A 1 0) 0 x A I hx h hg (by omega) (by omega) (fun I1 x1 h1 f1 => ?_)
    rw [nI_1]
    exact ih (b + 1) _ _ I1 x1 h1 a1 (by rw [e1]; omega) (fun I' x' h' f' => hk I' x' h' (f1.tr f'))
theorem r_drawD {f : Int32 → Int32 × Int32} (hf : ∀ x, f x = fxx x) {m : Nat} {kf : MI → Prop} (hm : m < 2 ^ 31) : ∀ (n d : Nat) (x : Int32) (A : St) (I : MI), I 336 13 = x → (∃ Y, RR I A Y) → Good A → d + n = m → sN A 0 9 + n ≤ 10000 → sN A 0 10 + 37000 * n + 40000 < 2 ^ 30 → (∀ I', (∃ Y, RR I' (drawD f n (x, A)).2 Y) → RG I I' → kf I') → lp_X10_runs_16 (nI m) kf (n + 1) (nI d) I := by
  intro n
  induction n with
  | zero =>
    intro d x A I hx h hg hd h9 hbd hk
    unfold lp_X10_runs_16
    exact ⟨fun _ => hk I h RG.rf, fun z => absurd (nI_le (by omega) (by omega)) z⟩
  | succ n ih =>
    intro d x A I hx h hg hd h9 hbd hk
    have h4 := hg.1.1.2.1
    obtain ⟨a1, a2, a3, a4⟩ := drawB_ok f (sN A 1 1) 0 (x, A) hg (by simp only; omega)
    obtain ⟨b1, b2, b3, b4⟩ := day1_ok f (x, A) hg (by simp only; omega)
    simp only at a1 a2 a3 a4 b1 b2 b3 b4
    unfold lp_X10_runs_16
    refine ⟨fun z => absurd z (nI_ge (by omega) (by omega)), fun _ => ⟨sN A 1 1 + 1, ?_⟩⟩
    rw [← nI_0]
    refine r_drawB hf (sN A 1 1) 0 x A I hx h hg (by omega) (fun I1 x1 h1 f1 => ?_)
    refine r_goesDay h1 a1.1 a1.2.1 a1.2.2 (by omega) (by omega) (fun I2 h2 f2 => ?_)
    rw [nI_1]
    exact ih (d + 1) _ _ I2 (by rw [f2 336 (by omega)]; exact x1) h2 b1 (by omega) (by omega) (by omega) (fun I' h' f' => hk I' h' ((f1.tr f2.g).tr f'))
theorem r_runs {f : Int32 → Int32 × Int32} (hf : ∀ x, f x = fxx x) {I : MI} {A : St} {n : Nat} {x : Int32} {Q : Int32 → MI → Prop} (h : ∃ Y, RR I A Y) (hg : Good A) (hn : n < 2 ^ 31) (h9 : sN A 0 9 + n ≤ 10000) (hbd : sN A 0 10 + 37000 * n + 40000 < 2 ^ 30) (hQ : ∀ I', (∃ Y, RR I' (drawD f n (x, A)).2 Y) → RG I I' → Q (sT (drawD f n (x, A)).2 0 12 - sT A 0 12) I') : wp_X10_runs I (nI n) x Q := by
  unfold wp_X10_runs
  intro I1 e1
  have g1 : I1 337 = I 337 := by rw [e1, u2_ne (by omega)]
  obtain ⟨Y, h⟩ := h
  have h1 : RR I1 A Y := h.cg g1
  refine ⟨v6, n + 1, ?_⟩
  rw [← nI_0]
  refine r_drawD hf hn n 0 x A I1 (by rw [e1, u2_s]) ⟨Y, h1⟩ hg (by omega) h9 hbd (fun I' h' f' => ⟨v6, ?_⟩)
  obtain ⟨Z, h'⟩ := h'
  have g6 : I1 337 6 = sT A 0 12 := h1.t (j := 0) (i := 12) (by decide)
  have g6' : I' 337 6 = sT (drawD f n (x, A)).2 0 12 := h'.t (j := 0) (i := 12) (by decide)
  rw [show ix 6 = 6 from by decide, g6, g6']
  exact hQ I' ⟨Z, h'⟩ ((RG.x e1).tr f')
