/-! by odds: the reference; sums of what lacks; how sure one is -/
theorem r_power {v n : Nat} {Q : Int64 → Prop} (hn : n < 2 ^ 30) (hQ : Q (lN (v ^ n))) : wp_X10_power (lN v) (nI n) Q := by
  have key : ∀ (m k : Nat), k + m = n → lp_X10_power_5 (lN v) (nI n) Q (m + 1) (lN (v ^ k)) (nI k) := by
    intro m
    induction m with
    | zero =>
      intro k hk
      have hk : k = n := by omega
      subst hk
      unfold lp_X10_power_5
      exact ⟨fun _ => hQ, fun z => absurd (nI_le (Nat.le_refl _) (by omega)) z⟩
    | succ m ih =>
      intro k hk
      unfold lp_X10_power_5
      rw [lN_mul, nI_1, ← Nat.pow_succ]
      exact ⟨fun z => absurd z (nI_ge (by omega) (by omega)), fun _ => ih (k + 1) (by omega)⟩
  unfold wp_X10_power
  refine ⟨n + 1, ?_⟩
  rw [← nI_0]
  exact key n 0 (by omega)
theorem chF_b : ∀ u, u < 9 → ∀ k, k < 9 → chF u k * (u - k) < 2 ^ 31 := by decide +kernel
theorem r_outOf {I : MI} {c u o x : Nat} {Q : Int64 → Prop} (hc : c < 9) (h7 : I 337 (32 + c) = nI u) (h8 : I 337 (41 + c) = nI o) (hu : u < 9) (ho : o < 13) (hx : x < 100) (hQ : Q (lN (ouV u o x))) : wp_X10_outOf I (nI c) (nI x) Q := by
  unfold wp_X10_outOf
  rw [show (32 : Int32) + nI c = nI (32 + c) from nI_add 32 c, show (41 : Int32) + nI c = nI (41 + c) from nI_add 41 c, ix_nI (by omega), ix_nI (by omega), h7, h8]
  refine ⟨vp_in_nI (by omega) (by omega), pk_le x u (fun z => ⟨x + 1, ?_⟩) (fun z => ?_)⟩
  · have e : ouV u o x = chF u x * o ^ x * (12 - o) ^ (u - x) * 12 ^ (8 - u) := if_pos z
    rw [e] at hQ
    have key : ∀ (m k : Nat) (kf : Int64 → Prop), k + m = x → kf (lN (chF u x)) → lp_X10_outOf_23 (nI x) (nI u) kf (m + 1) (lN (chF u k)) (nI k) := by
      intro m
      induction m with
      | zero =>
        intro k kf hk hkf
        have hk : k = x := by omega
        subst hk
        unfold lp_X10_outOf_23
        exact ⟨fun _ => hkf, fun z => absurd (nI_le (Nat.le_refl _) (by omega)) z⟩
      | succ m ih =>
        intro k kf hk hkf
        have hb := chF_b u hu k (by omega)
        unfold lp_X10_outOf_23
        rw [pk_sub (by omega), nI_1, nI_l (by omega), nI_l (by omega), lN_mul, pk_lDiv (by omega) (by omega) (by omega)]
        refine ⟨fun z => absurd z (nI_ge (by omega) (by omega)), fun _ => ⟨fun z => ?_, ih (k + 1) kf (by omega) hkf⟩⟩
        have := (lN_eq (a := k + 1) (b := 0) (by omega) (by omega)).mp z
        omega
    rw [show (1 : Int64) = lN (chF u 0) from rfl, ← nI_0]
    refine key x 0 _ (by omega) ?_
    rw [nI_l (by omega), show (12 : Int32) - nI o = nI (12 - o) from pk_sub (a := 12) (b := o) (by omega), nI_l (by omega), pk_sub z, show (8 : Int32) - nI u = nI (8 - u) from pk_sub (a := 8) (b := u) (by omega)]
    refine ⟨vp_in_nI (by omega) (by omega), r_power (by omega) ⟨vp_in_nI (by omega) (by omega), r_power (by omega) (r_power (v := 12) (by omega) ?_)⟩⟩
    rw [lN_mul, lN_mul, lN_mul]
    exact hQ
  · have e : ouV u o x = 0 := if_neg (by omega)
    rw [e] at hQ
    exact hQ
theorem r_lackOf {I : MI} {c u o s : Nat} {Q : Int64 → Prop} (hc : c < 9) (h7 : I 337 (32 + c) = nI u) (h8 : I 337 (41 + c) = nI o) (hu : u < 9) (ho : o < 13) (hs : s < 11) (hQ : Q (lN (lkV u o s))) : wp_X10_lackOf I (nI c) (nI s) Q := by
  have key : ∀ (m x a : Nat), s < x → (x + m = 9 ∨ (m = 0 ∧ 9 ≤ x ∧ x ≤ 11)) → Q (lN (lkA u o s m x a)) → lp_X10_lackOf_7 I (nI c) (nI s) Q (m + 1) (lN a) (nI x) := by
    intro m
    induction m with
    | zero =>
      intro x a hsx hx hq
      unfold lp_X10_lackOf_7
      rw [show (8 : Int32) = nI 8 from rfl]
      exact ⟨fun _ => hq, fun z => absurd (nI_lt (by omega) (by omega)) z⟩
    | succ m ih =>
      intro x a hsx hx hq
      unfold lp_X10_lackOf_7
      rw [show (8 : Int32) = nI 8 from rfl]
      refine ⟨fun z => absurd z (nI_nlt (by omega) (by omega)), fun _ => r_outOf hc h7 h8 hu ho (by omega) ?_⟩
      rw [pk_sub (by omega), nI_l (by omega), lN_mul, lN_add, nI_1]
      exact ih (x + 1) _ (by omega) (by omega) hq
  unfold wp_X10_lackOf
  refine ⟨8 - s + 1, ?_⟩
  rw [nI_1, show (0 : Int64) = lN 0 from rfl]
  exact key (8 - s) (s + 1) 0 (by omega) (by omega) hQ
section LACK
variable {I : MI} {L : ML} {A : St} {Y : List (Nat × Nat × Nat × Nat)}
/-- units and odds as the reference holds them -/
theorem r_uo {b p : Nat} (h : RR I A Y) (hb : b < 3) (hp : p < 3) : I 337 (32 + (3 * b + p)) = nI (sN A 7 (4 * b + p)) ∧ I 337 (41 + (3 * b + p)) = nI (sN A 8 (4 * b + p)) := by
  have eb : (4 * b + p) / 4 = b := by omega
  have ep : (4 * b + p) % 4 = p := by omega
  constructor
  · have := h.n (rdC (j := 7) (b := b) (p := p) (by omega) (by omega) hb hp)
    rw [show ri 7 (4 * b + p) = 32 + (3 * ((4 * b + p) / 4) + (4 * b + p) % 4) from rfl, eb, ep] at this
    exact this
  · have := h.n (rdC (j := 8) (b := b) (p := p) (by omega) (by omega) hb hp)
    rw [show ri 8 (4 * b + p) = 41 + (3 * ((4 * b + p) / 4) + (4 * b + p) % 4) from rfl, eb, ep] at this
    exact this
theorem uo_b (hs : SetOk A) {c : Nat} (hc : c < 16) : sN A 7 c < 9 ∧ sN A 8 c < 13 := by
  have := hs.2.2.2.2.1 c hc
  omega
def lkc (A : St) (c s : Nat) : Nat := lkV (sN A 7 c) (sN A 8 c) s
theorem r_lack' {b p s : Nat} {Q : Int64 → Prop} (h : RR I A Y) (hs : SetOk A) (hb : b < 3) (hp : p < 3) (hs10 : s < 11) (hQ : Q (lN (lkc A (4 * b + p) s))) : wp_X10_lackOf I (nI (3 * b + p)) (nI s) Q := by
  obtain ⟨a1, a2⟩ := r_uo h hb hp
  obtain ⟨b1, b2⟩ := uo_b hs (c := 4 * b + p) (by omega)
  exact r_lackOf (by omega) a1 a2 b1 b2 hs10 hQ
/-- what lacks in all cells by f -/
def lsV (A : St) (f : Nat → Nat) : Nat := tot (fun b => tot (fun p => lkc A (4 * b + p) (f (4 * b + p))) (sN A 1 0)) (sN A 1 1)
theorem c_lackBy {a : Nat} {f : Nat → Nat} {Q : Int64 → Prop} (hP : PR 3 I A) (hs : SetOk A) (hW : WL L A) (hf : ∀ c, c < 16 → vc A c → I a c = nI (f c) ∧ f c < 10) (hQ : Q (lN (lsV A f))) : wp_X8_lackBySpares 3 a 16 I L Q := by
  have h1 := hs.1.1
  have h2 := hs.1.2.1
  have e0 : I 3 0 = nI (sN A 1 0) := hP 0 0 (nd1 (by omega)) (by omega)
  have e1 : I 3 1 = nI (sN A 1 1) := hP 0 1 (nd1 (by omega)) (by omega)
  have inner : ∀ (b : Nat) (kf : Int64 → Prop), b < sN A 1 1 → ∀ (m p v : Nat), p + m = sN A 1 0 → kf (lN (v + tot (fun p => lkc A (4 * b + p) (f (4 * b + p))) (sN A 1 0))) → lp_X8_lackBySpares_17 3 a 16 I L (nI b) kf (m + 1) (lN (v + tot (fun p => lkc A (4 * b + p) (f (4 * b + p))) p)) (nI p) := by
    intro b kf hb m
    induction m with
    | zero =>
      intro p v hp hk
      have hp : p = sN A 1 0 := by omega
      unfold lp_X8_lackBySpares_17
      rw [e0, hp]
      exact ⟨fun _ => hk, fun z => absurd (nI_le (Nat.le_refl _) (by omega)) z⟩
    | succ m ih =>
      intro p v hp hk
      have h16 : 4 * b + p < 16 := by omega
      obtain ⟨g1, g2⟩ := hf (4 * b + p) h16 ⟨by omega, by omega⟩
      unfold lp_X8_lackBySpares_17 jn_X8_lackBySpares_55
      rw [e0]
      refine ⟨fun z => absurd z (nI_ge (by omega) (by omega)), fun _ => s_placeOf ⟨fun z => absurd z (nI_ge h16 (by omega)), fun _ => ⟨vp_in_nI h16 (by omega), ?_⟩⟩⟩
      rw [ix_nI (by omega), g1]
      refine c_lackOf h16 g2 ?_
      rw [hW.2 _ h16 _ g2, lN_add, nI_1]
      have := ih (p + 1) v (by omega) hk
      rw [show v + tot (fun p => lkc A (4 * b + p) (f (4 * b + p))) (p + 1) = v + tot (fun p => lkc A (4 * b + p) (f (4 * b + p))) p + lkV (sN A 7 (4 * b + p)) (sN A 8 (4 * b + p)) (f (4 * b + p)) by rw [Nat.add_assoc]; rfl] at this
      exact this
  have outer : ∀ (m b : Nat), b + m = sN A 1 1 → lp_X8_lackBySpares_5 3 a 16 I L Q (m + 1) (lN (tot (fun b => tot (fun p => lkc A (4 * b + p) (f (4 * b + p))) (sN A 1 0)) b)) (nI b) := by
    intro m
    induction m with
    | zero =>
      intro b hb
      have hb : b = sN A 1 1 := by omega
      unfold lp_X8_lackBySpares_5
      rw [e1, hb]
      exact ⟨fun _ => hQ, fun z => absurd (nI_le (Nat.le_refl _) (by omega)) z⟩
    | succ m ih =>
      intro b hb
      unfold lp_X8_lackBySpares_5
      rw [e1]
      refine ⟨fun z => absurd z (nI_ge (by omega) (by omega)), fun _ => ⟨sN A 1 0 + 1, ?_⟩⟩
      have := inner b (fun x12 => (lp_X8_lackBySpares_5 3 a 16 I L Q (m + 1) x12 (nI b + 1))) (by omega) (sN A 1 0) 0 (tot (fun b => tot (fun p => lkc A (4 * b + p) (f (4 * b + p))) (sN A 1 0)) b) (by omega) (by
        rw [nI_1]
        exact ih (b + 1) (by omega))
      rw [nI_0] at this
      exact this
  unfold wp_X8_lackBySpares
  refine ⟨sN A 1 1 + 1, ?_⟩
  have := outer (sN A 1 1) 0 (by omega)
  rw [nI_0] at this
  exact this
theorem r_lacksBy {f : Nat → Nat} {Q : Int64 → Prop} (h : RR I A Y) (hs : SetOk A) (hf : ∀ b p, b < sN A 1 1 → p < sN A 1 0 → I 344 (3 * b + p) = nI (f (4 * b + p)) ∧ f (4 * b + p) < 10) (hQ : Q (lN (lsV A f))) : wp_X10_lacksBySpares 344 9 I Q := by
  have h1 := hs.1.1
  have h2 := hs.1.2.1
  have e0 : I 337 0 = nI (sN A 1 0) := h.n (j := 1) (i := 0) (by decide)
  have e1 : I 337 1 = nI (sN A 1 1) := h.n (j := 1) (i := 1) (by decide)
  have inner : ∀ (b : Nat) (kf : Int64 → Prop), b < sN A 1 1 → ∀ (m p v : Nat), p + m = sN A 1 0 → kf (lN (v + tot (fun p => lkc A (4 * b + p) (f (4 * b + p))) (sN A 1 0))) → lp_X10_lacksBySpares_19 344 9 I (nI b) kf (m + 1) (lN (v + tot (fun p => lkc A (4 * b + p) (f (4 * b + p))) p)) (nI p) := by
    intro b kf hb m
    induction m with
    | zero =>
      intro p v hp hk
      have hp : p = sN A 1 0 := by omega
      unfold lp_X10_lacksBySpares_19
      rw [show ix 0 = 0 from by decide, e0, hp]
      exact ⟨v0, fun _ => hk, fun z => absurd (nI_le (Nat.le_refl _) (by omega)) z⟩
    | succ m ih =>
      intro p v hp hk
      obtain ⟨g1, g2⟩ := hf b p hb (by omega)
      unfold lp_X10_lacksBySpares_19
      rw [show ix 0 = 0 from by decide, e0]
      refine ⟨v0, fun z => absurd z (nI_ge (by omega) (by omega)), fun _ => r_cellOf (r_cellOf ⟨vp_in_nI (by omega) (by omega), ?_⟩)⟩
      rw [ix_nI (by omega), g1]
      refine r_lack' h hs (by omega) (by omega) (by omega) ?_
      rw [lN_add, nI_1]
      have := ih (p + 1) v (by omega) hk
      rw [show v + tot (fun p => lkc A (4 * b + p) (f (4 * b + p))) (p + 1) = v + tot (fun p => lkc A (4 * b + p) (f (4 * b + p))) p + lkc A (4 * b + p) (f (4 * b + p)) by rw [Nat.add_assoc]; rfl] at this
      exact this
  have outer : ∀ (m b : Nat), b + m = sN A 1 1 → lp_X10_lacksBySpares_5 344 9 I Q (m + 1) (lN (tot (fun b => tot (fun p => lkc A (4 * b + p) (f (4 * b + p))) (sN A 1 0)) b)) (nI b) := by
    intro m
    induction m with
    | zero =>
      intro b hb
      have hb : b = sN A 1 1 := by omega
      unfold lp_X10_lacksBySpares_5
      rw [show ix 1 = 1 from by decide, e1, hb]
      exact ⟨v1, fun _ => hQ, fun z => absurd (nI_le (Nat.le_refl _) (by omega)) z⟩
    | succ m ih =>
      intro b hb
      unfold lp_X10_lacksBySpares_5
      rw [show ix 1 = 1 from by decide, e1]
      refine ⟨v1, fun z => absurd z (nI_ge (by omega) (by omega)), fun _ => ⟨sN A 1 0 + 1, ?_⟩⟩
      have := inner b (fun x10 => (lp_X10_lacksBySpares_5 344 9 I Q (m + 1) x10 (nI b + 1))) (by omega) (sN A 1 0) 0 (tot (fun b => tot (fun p => lkc A (4 * b + p) (f (4 * b + p))) (sN A 1 0)) b) (by omega) (by
        rw [nI_1]
        exact ih (b + 1) (by omega))
      rw [nI_0] at this
      exact this
  unfold wp_X10_lacksBySpares
  refine ⟨sN A 1 1 + 1, ?_⟩
  have := outer (sN A 1 1) 0 (by omega)
  rw [nI_0] at this
  exact this
end LACK
-- how sure one is
def cumF (u o : Nat) : Nat → Nat
  | 0 => ouV u o 0
  | s + 1 => cumF u o s + ouV u o (s + 1)
theorem cum_b : ∀ u, u < 9 → ∀ o, o < 13 → cumF u o 8 = 429981696 ∧ ∀ s, s < 9 → cumF u o s ≤ 429981696 := by decide +kernel
def svF (u o h : Nat) : Nat → Nat → Nat
  | 0, s => s
  | m + 1, s => if 429981696 * h ≤ 100 * cumF u o s then s else svF u o h m (s + 1)
theorem c_sure {L : ML} {A : St} {c h : Nat} {Q : Int32 → Prop} (hc : c < 16) (hs : SetOk A) (hW : WL L A) (hh : h ≤ 100) (hQ : Q (nI (svF (sN A 7 c) (sN A 8 c) h 8 0))) : wp_X8_leastSure L (nI c) (nI h) Q := by
  obtain ⟨hu, ho⟩ := uo_b hs hc
  obtain ⟨c8, cb⟩ := cum_b _ hu _ ho
  have key : ∀ (m s : Nat) (v : Nat), s + m = 8 → v + ouV (sN A 7 c) (sN A 8 c) s = cumF (sN A 7 c) (sN A 8 c) s → Q (nI (svF (sN A 7 c) (sN A 8 c) h m s)) → lp_X8_leastSure_5 L (nI c) (nI h) Q (m + 1) (lN v) (nI s) := by
    intro m
    induction m with
    | zero =>
      intro s v hs hv hq
      have hs : s = 8 := by omega
      subst hs
      unfold lp_X8_leastSure_5
      refine ⟨fun z => absurd z (by decide), fun _ => c_outOf hc (by omega) ?_⟩
      rw [hW.1 c hc 8 (by omega), lN_add, hv, show (100 : Int64) = lN 100 from rfl, lN_mul, nI_l (by omega), show (429981696 : Int64) = lN 429981696 from rfl, lN_mul]
      refine ⟨fun z => absurd z (fun z => ?_), fun _ => hq⟩
      have := (pk_lLT (by omega) (by omega)).mp ((lg_cmp_lt _ _).mp z)
      omega
    | succ m ih =>
      intro s v hs hv hq
      have hb := cb s (by omega)
      unfold lp_X8_leastSure_5
      rw [show (9 : Int32) = nI 9 from rfl]
      refine ⟨fun z => absurd z (nI_nlt (by omega) (by omega)), fun _ => c_outOf hc (by omega) ?_⟩
      rw [hW.1 c hc s (by omega), lN_add, hv, show (100 : Int64) = lN 100 from rfl, lN_mul, nI_l (by omega), show (429981696 : Int64) = lN 429981696 from rfl, lN_mul, lg_cmp_lt, pk_lLT (by omega) (by omega)]
      unfold svF at hq
      refine ⟨fun z => ?_, fun z => ?_⟩
      · rw [if_neg (by omega)] at hq
        rw [nI_1]
        exact ih (s + 1) _ (by omega) rfl hq
      · rw [if_pos (by omega)] at hq
        exact hq
  unfold wp_X8_leastSure
  refine ⟨9, ?_⟩
  rw [show (0 : Int64) = lN 0 from rfl, ← nI_0]
  exact key 8 0 0 (by omega) (by rw [Nat.zero_add]; rfl) hQ
theorem r_sure {I : MI} {A : St} {Y : List (Nat × Nat × Nat × Nat)} {b p : Nat} {v : Int32} {Q : Int32 → Prop} (hR : RR I A Y) (hs : SetOk A) (hb : b < sN A 1 1) (hp : p < sN A 1 0) (h1 : ∀ h, h ≤ 100 → v = nI h → Q (nI (svF (sN A 7 (4 * b + p)) (sN A 8 (4 * b + p)) h 8 0))) (h0 : (∀ h, h ≤ 100 → ¬ v = nI h) → Q (-1)) : wp_X10_sure I (nI b) (nI p) v Q := by
  have q1 := hs.1.1
  have q2 := hs.1.2.1
  obtain ⟨g7, g8⟩ := r_uo hR (b := b) (p := p) (by omega) (by omega)
  obtain ⟨hu, ho⟩ := uo_b hs (c := 4 * b + p) (by omega)
  obtain ⟨c8, cb⟩ := cum_b _ hu _ ho
  unfold wp_X10_sure
  refine r_isCell hR hs (fun _ _ _ _ _ _ => ⟨fun z => absurd z (by decide), fun _ => ?_⟩) (fun z => absurd ⟨⟨b, hb, rfl⟩, ⟨p, hp, rfl⟩⟩ z)
  refine r_isN (m := 100) (by omega) (fun h hh eh => ⟨fun _ => ?_, fun z => absurd z (by decide)⟩) (fun z => ⟨fun w => absurd rfl w, fun _ => h0 z⟩)
  have hQ := h1 h hh eh
  refine r_cellOf ?_
  rw [← nI_0]
  refine r_outOf (by omega) g7 g8 hu ho (by omega) ⟨9, ?_⟩
  have key : ∀ (m s : Nat), s + m = 8 → Q (nI (svF (sN A 7 (4 * b + p)) (sN A 8 (4 * b + p)) h m s)) → lp_X10_sure_36 I (nI b) (nI p) v Q (m + 1) (nI s) (lN (cumF (sN A 7 (4 * b + p)) (sN A 8 (4 * b + p)) s)) := by
    intro m
    induction m with
    | zero =>
      intro s hs hq
      have hs : s = 8 := by omega
      subst hs
      unfold lp_X10_sure_36
      rw [eh, show (100 : Int64) = lN 100 from rfl, lN_mul, nI_l (by omega), show (429981696 : Int64) = lN 429981696 from rfl, lN_mul, c8]
      refine ⟨fun _ => hq, fun z => absurd ((lg_cmp_ge _ _).mpr ((pk_lLE (by omega) (by omega)).mpr (by omega))) z⟩
    | succ m ih =>
      intro s hs hq
      have hb' := cb s (by omega)
      unfold lp_X10_sure_36
      rw [show (100 : Int64) = lN 100 from rfl, lN_mul, show v.toInt64 * (429981696 : Int64) = lN (h * 429981696) by rw [eh, nI_l (by omega), show (429981696 : Int64) = lN 429981696 from rfl, lN_mul], lg_cmp_ge, pk_lLE (by omega) (by omega)]
      unfold svF at hq
      refine ⟨fun z => ?_, fun z => r_cellOf ?_⟩
      · rw [if_pos (by omega)] at hq
        exact hq
      · rw [if_neg (by omega)] at hq
        rw [nI_1]
        refine r_outOf (by omega) g7 g8 hu ho (by omega) ?_
        rw [lN_add]
        exact ih (s + 1) (by omega) hq
  exact key 8 0 (by omega) hQ
