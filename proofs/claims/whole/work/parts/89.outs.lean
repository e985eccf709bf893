/-! by odds: how many are out, what lacks; the class's tables -/
def ocF (u o k : Nat) : Nat := if k < u then o else 0
def rowC (u o : Nat) : Nat → Nat → Nat
  | 0, x => if x = 0 then 1 else 0
  | k + 1, 0 => rowC u o k 0 * (12 - ocF u o k)
  | k + 1, x + 1 => rowC u o k (x + 1) * (12 - ocF u o k) + rowC u o k x * ocF u o k
def chF (u : Nat) : Nat → Nat
  | 0 => 1
  | k + 1 => chF u k * (u - k) / (k + 1)
/-- in how many ways just x are out -/
def ouV (u o x : Nat) : Nat := if x ≤ u then chF u x * o ^ x * (12 - o) ^ (u - x) * 12 ^ (8 - u) else 0
theorem rowC_ou : ∀ u, u < 9 → ∀ o, o < 13 → ∀ x, x < 9 → rowC u o 8 x = ouV u o x := by decide +kernel
def lkA (u o s : Nat) : Nat → Nat → Nat → Nat
  | 0, _, a => a
  | m + 1, x, a => lkA u o s m (x + 1) (a + (x - s) * ouV u o x)
/-- what lacks by s spares -/
def lkV (u o s : Nat) : Nat := lkA u o s (8 - s) (s + 1) 0
section COUT
theorem c_fillOuts {L : ML} {c u o : Nat} {Q : ML → Prop} (hc : c < 16) (hu : u < 9) (ho : o < 13) (hQ : ∀ L', (∀ x, x < 9 → L' 327 (9 * c + x) = lN (ouV u o x)) → (∀ i, (i < 9 * c ∨ 9 * c + 9 ≤ i) → L' 327 i = L 327 i) → (∀ k, k ≠ 327 → L' k = L k) → Q L') : wp_X8_fillOuts L (nI c) (nI u) (nI o) Q := by
  have e9 : nI c * 9 = nI (9 * c) := by rw [show (9 : Int32) = nI 9 from rfl, pk_mul, Nat.mul_comm]
  -- one unit
  have inner : ∀ (k : Nat) (kf : ML → Prop) (M : ML), (∀ L', (∀ x, 1 ≤ x → x < 9 → L' 327 (9 * c + x) = lN (rowC u o (k + 1) x)) → L' 327 (9 * c) = lN (rowC u o k 0) → (∀ i, (i < 9 * c ∨ 9 * c + 9 ≤ i) → L' 327 i = M 327 i) → (∀ q, q ≠ 327 → L' q = M q) → kf L') → ∀ (x : Nat) (J : ML), x < 9 → (∀ y, x < y → y < 9 → J 327 (9 * c + y) = lN (rowC u o (k + 1) y)) → (∀ y, y ≤ x → J 327 (9 * c + y) = lN (rowC u o k y)) → (∀ i, (i < 9 * c ∨ 9 * c + 9 ≤ i) → J 327 i = M 327 i) → (∀ q, q ≠ 327 → J q = M q) → lp_X8_fillOuts_88 (nI (9 * c)) (nI (ocF u o k)) kf (x + 1) (nI x) J := by
    intro k kf M hkf x
    have hoc : ocF u o k ≤ 12 := by unfold ocF; by_cases h : k < u <;> simp [h]; omega
    induction x with
    | zero =>
      intro J hx h1 h2 h3 h4
      unfold lp_X8_fillOuts_88
      refine ⟨fun _ => hkf J (fun y a b => h1 y (by omega) b) (by have := h2 0 (Nat.le_refl _); rw [Nat.add_zero] at this; exact this) h3 h4, fun z => absurd (by decide) z⟩
    | succ x ih =>
      intro J hx h1 h2 h3 h4
      unfold lp_X8_fillOuts_88
      have ea : nI (9 * c) + nI (x + 1) = nI (9 * c + x + 1) := by rw [nI_add]; rfl
      rw [ea, nI_pred, pk_m1, ix_nI (by omega), ix_nI (by omega)]
      refine ⟨fun z => absurd z (nI_nle (by omega) (by omega)), fun _ => ⟨vp_in_nI (by omega) (by omega), vp_in_nI (by omega) (by omega), vp_in_nI (by omega) (by omega), fun L19 e19 => ?_⟩⟩
      have a1 := h2 (x + 1) (Nat.le_refl _)
      have a2 := h2 x (by omega)
      rw [show 9 * c + (x + 1) = 9 * c + x + 1 by omega] at a1
      rw [a1, a2, show (12 : Int32) - nI (ocF u o k) = nI (12 - ocF u o k) from pk_sub hoc, nI_l (by omega), nI_l (by omega), lN_mul, lN_mul, lN_add] at e19
      refine ih L19 (by omega) (fun y a b => ?_) (fun y a => ?_) (fun i hi => by rw [e19, u2_n2 (by omega)]; exact h3 i hi) (fun q hq => by rw [e19, u2_ne hq]; exact h4 q hq)
      · by_cases hy : y = x + 1
        · rw [hy, show 9 * c + (x + 1) = 9 * c + x + 1 by omega, e19, u2_s]
          rfl
        · rw [e19, u2_n2 (by omega)]
          exact h1 y (by omega) b
      · rw [e19, u2_n2 (by omega)]
        exact h2 y (by omega)
  have units : ∀ (m k : Nat) (J : ML), k + m = 8 → (∀ y, y < 9 → J 327 (9 * c + y) = lN (rowC u o k y)) → (∀ i, (i < 9 * c ∨ 9 * c + 9 ≤ i) → J 327 i = L 327 i) → (∀ q, q ≠ 327 → J q = L q) → lp_X8_fillOuts_64 (nI u) (nI o) (nI (9 * c)) Q (m + 1) (nI k) J := by
    intro m
    induction m with
    | zero =>
      intro k J hk h2 h3 h4
      have hk : k = 8 := by omega
      subst hk
      unfold lp_X8_fillOuts_64
      exact ⟨fun _ => hQ J (fun x hx => by rw [h2 x hx, rowC_ou u hu o ho x hx]) h3 h4, fun z => absurd (by decide) z⟩
    | succ m ih =>
      intro k J hk h2 h3 h4
      have hoc : ocF u o k ≤ 12 := by unfold ocF; by_cases h : k < u <;> simp [h]; omega
      have one : jn_X8_fillOuts_82 J (nI (9 * c)) (nI k) (nI (ocF u o k)) (fun x25 L26 => (lp_X8_fillOuts_64 (nI u) (nI o) (nI (9 * c)) Q (m + 1) x25 L26)) := by
        unfold jn_X8_fillOuts_82
        refine ⟨9, ?_⟩
        refine inner k _ J (fun L21 p1 p2 p3 p4 => ?_) 8 J (by omega) (fun y a b => by omega) (fun y a => h2 y (by omega)) (fun _ _ => rfl) (fun _ _ => rfl)
        rw [ix_nI (by omega), p2, show (12 : Int32) - nI (ocF u o k) = nI (12 - ocF u o k) from pk_sub hoc, nI_l (by omega), lN_mul, nI_1]
        refine ⟨vp_in_nI (by omega) (by omega), vp_in_nI (by omega) (by omega), fun L24 e24 => ?_⟩
        refine ih (k + 1) L24 (by omega) (fun y hy => ?_) (fun i hi => by rw [e24, u2_n2 (by omega), p3 i hi]; exact h3 i hi) (fun q hq => by rw [e24, u2_ne hq, p4 q hq]; exact h4 q hq)
        cases y with
        | zero => rw [Nat.add_zero, e24, u2_s]; rfl
        | succ y => rw [e24, u2_n2 (by omega)]; exact p1 (y + 1) (by omega) hy
      unfold lp_X8_fillOuts_64
      rw [show (8 : Int32) = nI 8 from rfl]
      refine ⟨fun z => absurd z (nI_ge (by omega) (by omega)), fun _ => pk_le u k (fun z => ?_) (fun z => ?_)⟩
      · have : ocF u o k = 0 := by unfold ocF; rw [if_neg (by omega)]
        rw [this] at one
        exact one
      · have : ocF u o k = o := by unfold ocF; rw [if_pos z]
        rw [this] at one
        exact one
  have init : ∀ (m x : Nat) (J : ML), x + m = 9 → (∀ y, y < x → J 327 (9 * c + y) = lN (rowC u o 0 y)) → (∀ i, (i < 9 * c ∨ 9 * c + 9 ≤ i) → J 327 i = L 327 i) → (∀ q, q ≠ 327 → J q = L q) → lp_X8_fillOuts_28 (nI (9 * c)) (fun L12 => (∃ N29, lp_X8_fillOuts_64 (nI u) (nI o) (nI (9 * c)) Q N29 0 L12)) (m + 1) (nI x) J := by
    intro m
    induction m with
    | zero =>
      intro x J hx h2 h3 h4
      have hx : x = 9 := by omega
      subst hx
      unfold lp_X8_fillOuts_28
      refine ⟨fun _ => ⟨9, ?_⟩, fun z => absurd (by decide) z⟩
      rw [← nI_0]
      exact units 8 0 J (by omega) h2 h3 h4
    | succ m ih =>
      intro x J hx h2 h3 h4
      have go : ∀ v : Int64, v = lN (rowC u o 0 x) → jn_X8_fillOuts_54 J (nI x) v (nI (9 * c) + nI x) (fun x7 L8 => (lp_X8_fillOuts_28 (nI (9 * c)) (fun L12 => (∃ N29, lp_X8_fillOuts_64 (nI u) (nI o) (nI (9 * c)) Q N29 0 L12)) (m + 1) x7 L8)) := by
        intro v hv
        unfold jn_X8_fillOuts_54
        rw [nI_add, ix_nI (by omega), nI_1]
        refine ⟨vp_in_nI (by omega) (by omega), fun L6 e6 => ?_⟩
        refine ih (x + 1) L6 (by omega) (fun y hy => ?_) (fun i hi => by rw [e6, u2_n2 (by omega)]; exact h3 i hi) (fun q hq => by rw [e6, u2_ne hq]; exact h4 q hq)
        by_cases hyx : y = x
        · rw [hyx, e6, u2_s, hv]
        · rw [e6, u2_n2 (by omega)]; exact h2 y (by omega)
      unfold lp_X8_fillOuts_28
      rw [show (9 : Int32) = nI 9 from rfl]
      refine ⟨fun z => absurd z (nI_ge (by omega) (by omega)), fun _ => (pk_eq x 0 (fun z => go 1 ?_) (fun z => go 0 ?_)).symm⟩
      · rw [z]; rfl
      · show (0 : Int64) = lN (if x = 0 then 1 else 0)
        rw [if_neg z]; rfl
  unfold wp_X8_fillOuts
  rw [e9, show nI (9 * c) + (9 : Int32) = nI (9 * c + 9) from nI_add _ 9, show (144 : Int32) = nI 144 from rfl]
  refine ⟨fun z => absurd z (nI_pos (by omega)), fun _ => ⟨fun _ => ⟨10, ?_⟩, fun z => absurd (nI_le (by omega) (by omega)) z⟩⟩
  rw [← nI_0]
  exact init 9 0 L (by omega) (fun y hy => absurd hy (by omega)) (fun _ _ => rfl) (fun _ _ => rfl)
theorem c_outOf {L : ML} {c x : Nat} {Q : Int64 → Prop} (hc : c < 16) (hx : x < 9) (hQ : Q (L 327 (9 * c + x))) : wp_X8_outOf L (nI c) (nI x) Q := by
  have e9 : nI c * 9 + nI x = nI (9 * c + x) := by rw [show (9 : Int32) = nI 9 from rfl, pk_mul, nI_add, Nat.mul_comm]
  unfold wp_X8_outOf
  rw [e9, ix_nI (by omega), show (9 : Int32) = nI 9 from rfl, show (144 : Int32) = nI 144 from rfl]
  exact ⟨fun z => absurd z (nI_pos (by omega)), fun _ => ⟨fun z => absurd z (nI_ge hx (by omega)), fun _ => ⟨fun z => absurd z (nI_pos (by omega)), fun _ => ⟨fun z => absurd z (nI_ge (by omega) (by omega)), fun _ => ⟨vp_in_nI (by omega) (by omega), hQ⟩⟩⟩⟩⟩
theorem c_outOf9 {L : ML} {c : Nat} {Q : Int64 → Prop} (hQ : Q 0) : wp_X8_outOf L (nI c) (nI 9) Q := by
  unfold wp_X8_outOf
  exact ⟨fun z => absurd z (by decide), fun _ => ⟨fun _ => hQ, fun z => absurd (by decide) z⟩⟩
theorem c_lackOf {L : ML} {c s : Nat} {Q : Int64 → Prop} (hc : c < 16) (hs : s < 10) (hQ : Q (L 328 (10 * c + s))) : wp_X8_lackOf L (nI c) (nI s) Q := by
  have e9 : nI c * 10 + nI s = nI (10 * c + s) := by rw [show (10 : Int32) = nI 10 from rfl, pk_mul, nI_add, Nat.mul_comm]
  unfold wp_X8_lackOf
  rw [e9, ix_nI (by omega), show (10 : Int32) = nI 10 from rfl, show (160 : Int32) = nI 160 from rfl]
  exact ⟨fun z => absurd z (nI_pos (by omega)), fun _ => ⟨fun z => absurd z (nI_ge hs (by omega)), fun _ => ⟨fun z => absurd z (nI_pos (by omega)), fun _ => ⟨fun z => absurd z (nI_ge (by omega) (by omega)), fun _ => ⟨vp_in_nI (by omega) (by omega), hQ⟩⟩⟩⟩⟩
theorem c_fillLack {L : ML} {c u o : Nat} {Q : ML → Prop} (hc : c < 16) (hL : ∀ x, x < 9 → L 327 (9 * c + x) = lN (ouV u o x)) (hQ : ∀ L', (∀ s, s < 10 → L' 328 (10 * c + s) = lN (lkV u o s)) → (∀ i, (i < 10 * c ∨ 10 * c + 10 ≤ i) → L' 328 i = L 328 i) → (∀ k, k ≠ 328 → L' k = L k) → Q L') : wp_X8_fillLack L (nI c) Q := by
  have e10 : nI c * 10 = nI (10 * c) := by rw [show (10 : Int32) = nI 10 from rfl, pk_mul, Nat.mul_comm]
  have inner : ∀ (s : Nat) (kf : Int64 → Prop) (J : ML), (∀ x, x < 9 → J 327 (9 * c + x) = lN (ouV u o x)) → s < 10 → ∀ (m x a : Nat), s < x → (x + m = 9 ∨ (m = 0 ∧ x = 10)) → kf (lN (lkA u o s m x a)) → lp_X8_fillLack_38 J (nI c) (nI s) kf (m + 1) (lN a) (nI x) := by
    intro s kf J hJ hs m
    induction m with
    | zero =>
      intro x a hsx hx hk
      unfold lp_X8_fillLack_38
      rw [show (9 : Int32) = nI 9 from rfl]
      exact ⟨fun _ => hk, fun z => absurd (nI_le (by omega) (by omega)) z⟩
    | succ m ih =>
      intro x a hsx hx hk
      unfold lp_X8_fillLack_38
      rw [show (9 : Int32) = nI 9 from rfl]
      refine ⟨fun z => absurd z (nI_ge (by omega) (by omega)), fun _ => c_outOf hc (by omega) ?_⟩
      rw [hJ x (by omega), pk_sub (by omega), nI_l (by omega), lN_mul, lN_add, nI_1]
      exact ih (x + 1) _ (by omega) (by omega) hk
  have rows : ∀ (m s : Nat) (J : ML), s + m = 10 → (∀ q, q < s → J 328 (10 * c + q) = lN (lkV u o q)) → (∀ i, (i < 10 * c ∨ 10 * c + 10 ≤ i) → J 328 i = L 328 i) → (∀ k, k ≠ 328 → J k = L k) → lp_X8_fillLack_24 (nI c) (nI (10 * c)) Q (m + 1) (nI s) J := by
    intro m
    induction m with
    | zero =>
      intro s J hs h1 h2 h3
      have hs : s = 10 := by omega
      subst hs
      unfold lp_X8_fillLack_24
      exact ⟨fun _ => hQ J h1 h2 h3, fun z => absurd (by decide) z⟩
    | succ m ih =>
      intro s J hs h1 h2 h3
      unfold lp_X8_fillLack_24
      rw [show (10 : Int32) = nI 10 from rfl]
      refine ⟨fun z => absurd z (nI_ge (by omega) (by omega)), fun _ => ⟨8 - s + 1, ?_⟩⟩
      rw [nI_1, show (0 : Int64) = lN 0 from rfl]
      refine inner s _ J (fun x hx => by rw [h3 327 (by omega)]; exact hL x hx) (by omega) (8 - s) (s + 1) 0 (by omega) (by omega) ?_
      rw [nI_add, ix_nI (by omega)]
      refine ⟨vp_in_nI (by omega) (by omega), fun L9 e9 => ?_⟩
      refine ih (s + 1) L9 (by omega) (fun q hq => ?_) (fun i hi => by rw [e9, u2_n2 (by omega)]; exact h2 i hi) (fun k hk => by rw [e9, u2_ne hk]; exact h3 k hk)
      by_cases hqs : q = s
      · rw [hqs, e9, u2_s]; rfl
      · rw [e9, u2_n2 (by omega)]; exact h1 q (by omega)
  unfold wp_X8_fillLack
  rw [e10, show nI (10 * c) + (10 : Int32) = nI (10 * c + 10) from nI_add _ 10, show (160 : Int32) = nI 160 from rfl]
  refine ⟨fun z => absurd z (nI_pos (by omega)), fun _ => ⟨fun _ => ⟨11, ?_⟩, fun z => absurd (nI_le (by omega) (by omega)) z⟩⟩
  rw [← nI_0]
  exact rows 10 0 L (by omega) (fun q hq => absurd hq (by omega)) (fun _ _ => rfl) (fun _ _ => rfl)
/-- the class's tables are right -/
def WL (L : ML) (A : St) : Prop := (∀ c, c < 16 → ∀ x, x < 9 → L 327 (9 * c + x) = lN (ouV (sN A 7 c) (sN A 8 c) x)) ∧ ∀ c, c < 16 → ∀ s, s < 10 → L 328 (10 * c + s) = lN (lkV (sN A 7 c) (sN A 8 c) s)
theorem c_learnLack {I : MI} {L : ML} {A : St} {Q : MI → ML → Prop} (hP : PR 3 I A) (hs : SetOk A) (hk : I 326 10 = 0 ∨ WL L A) (hQ : ∀ I' L', WL L' A → (I' = u2 I 326 10 1 ∨ (I' = I ∧ ¬ I 326 10 = 0)) → (∀ k, k ≠ 327 → k ≠ 328 → L' k = L k) → Q I' L') : wp_X8_learnLack 3 I L Q := by
  unfold wp_X8_learnLack
  refine ⟨fun z => ⟨17, ?_⟩, fun z => hQ I L (hk.resolve_left z) (Or.inr ⟨rfl, z⟩) (fun _ _ _ => rfl)⟩
  have key : ∀ (m c : Nat) (J : ML), c + m = 16 → (∀ q, q < c → ∀ x, x < 9 → J 327 (9 * q + x) = lN (ouV (sN A 7 q) (sN A 8 q) x)) → (∀ q, q < c → ∀ s, s < 10 → J 328 (10 * q + s) = lN (lkV (sN A 7 q) (sN A 8 q) s)) → (∀ k, k ≠ 327 → k ≠ 328 → J k = L k) → lp_X8_learnLack_10 3 I Q (m + 1) (nI c) J := by
    intro m
    induction m with
    | zero =>
      intro c J hc h1 h2 h3
      have hc : c = 16 := by omega
      subst hc
      unfold lp_X8_learnLack_10
      exact ⟨fun _ I3 e3 => hQ I3 J ⟨h1, h2⟩ (Or.inl e3) h3, fun z => absurd (by decide) z⟩
    | succ m ih =>
      intro c J hc h1 h2 h3
      have hb := hs.2.2.2.2.1 c (by omega)
      have g9 : I (3 + 6) c = nI (sN A 7 c) := hP 6 c (nd7 (by omega)) (by omega)
      have g10 : I (3 + 7) c = nI (sN A 8 c) := hP 7 c (nd8 (by omega)) (by omega)
      unfold lp_X8_learnLack_10
      rw [show (16 : Int32) = nI 16 from rfl, ix_nI (by omega), g9, g10]
      have vp : vp_in (nI c) 16 := vp_in_nI (by omega) (by omega)
      refine ⟨fun z => absurd z (nI_ge (by omega) (by omega)), fun _ => ⟨vp, vp, c_fillOuts (by omega) (by omega) (by omega) (fun L6 p1 p2 p3 => c_fillLack (by omega) p1 (fun L7 q1 q2 q3 => ?_))⟩⟩
      rw [nI_1]
      refine ih (c + 1) L7 (by omega) (fun q hq x hx => ?_) (fun q hq s hs' => ?_) (fun k a b => by rw [q3 k b, p3 k a]; exact h3 k a b)
      · rw [q3 327 (by omega)]
        by_cases hqc : q = c
        · rw [hqc]; exact p1 x hx
        · rw [p2 _ (by omega)]; exact h1 q (by omega) x hx
      · by_cases hqc : q = c
        · rw [hqc]; exact q1 s hs'
        · rw [q2 _ (by omega), p3 328 (by omega)]; exact h2 q (by omega) s hs'
  rw [← nI_0]
  exact key 16 0 L (by omega) (fun q hq => absurd hq (by omega)) (fun q hq => absurd hq (by omega)) (fun _ _ _ => rfl)
end COUT
