/-! the tape: fed, taken back, read as a text -/
theorem sb_of (x : Int32) : x.toInt8.toInt32 = sb (x.toBitVec.toNat % 256) := by
  unfold sb
  refine congrArg Int8.toInt32 ?_
  apply Int8.toBitVec_inj.mp
  show x.toBitVec.signExtend 8 = (BitVec.ofNat 32 (x.toBitVec.toNat % 256)).signExtend 8
  rw [BitVec.signExtend_eq_setWidth_of_le _ (by decide), BitVec.signExtend_eq_setWidth_of_le _ (by decide)]
  apply BitVec.eq_of_toNat_eq
  rw [BitVec.toNat_setWidth, BitVec.toNat_setWidth, BitVec.toNat_ofNat]
  omega
/-- the k-th byte of an int, the highest first -/
def byN (v : Int32) (k : Nat) : Nat := v.toBitVec.toNat / 2 ^ (24 - 8 * k) % 256
theorem byN_lt (v : Int32) (k : Nat) : byN v k < 256 := Nat.mod_lt _ (by decide)
theorem ushr_by (v : Int32) : ∀ k, k < 4 → (usr v (nI (24 - 8 * k))).toInt8.toInt32 = sb (byN v k) := by
  intro k hk
  rw [sb_of]
  unfold byN
  congr 2
  have hs : ∀ k, k < 4 → (((nI (24 - 8 * k)).toUInt32 &&& Int32.toUInt32 31).toBitVec % 32).toNat = 24 - 8 * k := by decide +kernel
  exact pk_ushr v (nI (24 - 8 * k)) (24 - 8 * k) (hs k hk)
theorem ashr_by (v : Int32) : ∀ k, k < 4 → (v >>> nI (24 - 8 * k)) &&& 255 = nI (byN v k) := by
  intro k hk
  rw [pk_and _ 8 (by decide +kernel)]
  unfold byN
  congr 1
  have hs : ∀ k, k < 4 → ((nI (24 - 8 * k)).toBitVec.smod 32).toNat = 24 - 8 * k := by decide +kernel
  have h := pk_shr v (nI (24 - 8 * k)) (24 - 8 * k) (hs k hk)
  rw [Int.shiftRight_eq_div_pow] at h
  have c1 : (v >>> nI (24 - 8 * k)).toInt = if 2 * (v >>> nI (24 - 8 * k)).toBitVec.toNat < 2 ^ 32 then ((v >>> nI (24 - 8 * k)).toBitVec.toNat : Int) else ((v >>> nI (24 - 8 * k)).toBitVec.toNat : Int) - (2 ^ 32 : Nat) := BitVec.toInt_eq_toNat_cond _
  have c2 : v.toInt = if 2 * v.toBitVec.toNat < 2 ^ 32 then (v.toBitVec.toNat : Int) else (v.toBitVec.toNat : Int) - (2 ^ 32 : Nat) := BitVec.toInt_eq_toNat_cond _
  have l1 := (v >>> nI (24 - 8 * k)).toBitVec.isLt
  have l2 := v.toBitVec.isLt
  rw [c1, c2] at h
  generalize (v >>> nI (24 - 8 * k)).toBitVec.toNat = x at *
  generalize v.toBitVec.toNat = y at *
  obtain rfl | rfl | rfl | rfl : k = 0 ∨ k = 1 ∨ k = 2 ∨ k = 3 := by omega
  · split at h <;> split at h <;> simp at h ⊢ <;> omega
  · split at h <;> split at h <;> simp at h ⊢ <;> omega
  · split at h <;> split at h <;> simp at h ⊢ <;> omega
  · split at h <;> split at h <;> simp at h ⊢ <;> omega
def wS : Nat → Int32
  | 0 => 24
  | 1 => 16
  | 2 => 8
  | 3 => 0
  | _ => -8
theorem wS_n : ∀ k, k < 4 → wS k = nI (24 - 8 * k) ∧ wS k + (-8) = wS (k + 1) ∧ ¬ wS k < 0 := by decide +kernel
/-- nothing but the class's tape and its length changes -/
def FP (I I' : MI) : Prop := (∀ a, a ≠ 0 → a ≠ 1 → I' a = I a) ∧ ∀ s, s ≠ 1 → I' 0 s = I 0 s
theorem FP.tr {I J K : MI} (h : FP I J) (h2 : FP J K) : FP I K := ⟨fun a b c => (h2.1 a b c).trans (h.1 a b c), fun s hs => (h2.2 s hs).trans (h.2 s hs)⟩
theorem c_put {I : MI} {n : Nat} {v : Int32} {Q : MI → Prop} (hl : I 0 1 = nI n) (hn : n + 4 ≤ 400) (hQ : ∀ I', FP I I' → I' 0 1 = nI (n + 4) → (∀ q, q < 4 → I' 1 (n + q) = sb (byN v q)) → (∀ s, s < n → I' 1 s = I 1 s) → Q I') : wp_X9_putFour I v Q := by
  have key : ∀ (m k : Nat) (J : MI), k + m = 4 → FP I J → J 0 1 = nI (n + k) → (∀ q, q < k → J 1 (n + q) = sb (byN v q)) → (∀ s, s < n → J 1 s = I 1 s) → lp_X9_putFour_3 v Q (m + 1) (wS k) J := by
    intro m
    induction m with
    | zero =>
      intro k J hk f e h1 h2
      have hk : k = 4 := by omega
      subst hk
      unfold lp_X9_putFour_3
      exact ⟨fun _ => hQ J f e h1 h2, fun z => absurd (by decide) z⟩
    | succ m ih =>
      intro k J hk f e h1 h2
      obtain ⟨w1, w2, w3⟩ := wS_n k (by omega)
      unfold lp_X9_putFour_3 jn_X9_putFour_40
      rw [w2, e, ix_nI (by omega), pk_vb, w1, ushr_by v k (by omega), show (400 : Int32) = nI 400 from rfl]
      refine ⟨fun z => absurd z (nI_pos (by omega)), fun _ => ⟨fun z => absurd z (nI_ge (by omega) (by omega)), fun _ => ⟨vp_in_nI (by omega) (by omega), fun I6 e6 I7 e7 => ?_⟩⟩⟩
      have g6 : I6 0 1 = nI (n + k) := by rw [e6, u2_ne (by omega)]; exact e
      rw [g6, nI_1] at e7
      have g1 : ∀ s, I7 1 s = if s = n + k then sb (byN v k) else J 1 s := fun s => by
        rw [e7, u2_ne (by omega), e6, u2_at]
        by_cases q : s = n + k
        · rw [if_pos ⟨rfl, q⟩, if_pos q]
        · rw [if_neg (fun g => q g.2), if_neg q]
      refine ih (k + 1) I7 (by omega) ⟨fun a b c => by rw [e7, u2_ne b, e6, u2_ne c]; exact f.1 a b c, fun s hs => by rw [e7, u2_n2 hs, e6, u2_ne (by omega)]; exact f.2 s hs⟩ (by rw [e7, u2_s]; rfl) (fun q hq => ?_) (fun s hs => by rw [g1, if_neg (by omega)]; exact h2 s hs)
      rw [g1]
      by_cases hqk : q = k
      · rw [if_pos (by omega), hqk]
      · rw [if_neg (by omega)]
        exact h1 q (by omega)
  unfold wp_X9_putFour
  exact ⟨5, key 4 0 I (by omega) ⟨fun _ _ _ => rfl, fun _ _ => rfl⟩ hl (fun q hq => absurd hq (by omega)) (fun _ _ => rfl)⟩
def ar (a b c d e : Int32) (j : Nat) : Int32 := if j = 0 then a else if j = 1 then b else if j = 2 then c else if j = 3 then d else e
/-- what the tape is behind twenty bytes more -/
def fedT (t : Nat → Nat) (n : Nat) (g : Nat → Int32) (s : Nat) : Nat := if s < n then t s else byN (g ((s - n) / 4)) ((s - n) % 4)
theorem c_feed {I : MI} {n : Nat} {a b c d e : Int32} {t : Nat → Nat} {Q : Int32 → MI → Prop} (hT : CT I t n) (hl : I 0 1 = nI n) (h1 : n + 20 ≤ 400 → ∀ I', FP I I' → I' 0 1 = nI (n + 20) → CT I' (fedT t n (ar a b c d e)) (n + 20) → Q (nI (n + 20)) I') (h0 : 400 < n + 20 → Q (-1) I) : wp_X9_feed I a b c d e Q := by
  have hn := hT.1
  unfold wp_X9_feed
  rw [hl, show nI n + (20 : Int32) = nI (n + 20) from nI_add n 20]
  refine pk_le (n + 20) 400 (fun z => ?_) (fun z => h0 z)
  refine c_put hl (by omega) (fun I2 f2 l2 p2 q2 => c_put l2 (by omega) (fun I3 f3 l3 p3 q3 => c_put l3 (by omega) (fun I4 f4 l4 p4 q4 => c_put l4 (by omega) (fun I5 f5 l5 p5 q5 => c_put l5 (by omega) (fun I6 f6 l6 p6 q6 => ?_)))))
  have l6' : I6 0 1 = nI (n + 20) := by rw [l6]
  rw [l6']
  refine h1 z I6 ((((f2.tr f3).tr f4).tr f5).tr f6) l6' ⟨z, fun k hk => ?_⟩
  unfold fedT
  by_cases hkn : k < n
  · rw [if_pos hkn]
    refine ⟨(hT.2 k hkn).1, ?_⟩
    rw [q6 k (by omega), q5 k (by omega), q4 k (by omega), q3 k (by omega), q2 k hkn]
    exact (hT.2 k hkn).2
  · rw [if_neg hkn]
    refine ⟨byN_lt _ _, ?_⟩
    have hq : (k - n) % 4 < 4 := Nat.mod_lt _ (by omega)
    have hj : (k - n) / 4 = 0 ∨ (k - n) / 4 = 1 ∨ (k - n) / 4 = 2 ∨ (k - n) / 4 = 3 ∨ (k - n) / 4 = 4 := by omega
    rcases hj with h | h | h | h | h
    · rw [h]
      have := p2 ((k - n) % 4) hq
      rw [show n + (k - n) % 4 = k by omega] at this
      rw [q6 k (by omega), q5 k (by omega), q4 k (by omega), q3 k (by omega)]
      exact this
    · rw [h]
      have := p3 ((k - n) % 4) hq
      rw [show n + 4 + (k - n) % 4 = k by omega] at this
      rw [q6 k (by omega), q5 k (by omega), q4 k (by omega)]
      exact this
    · rw [h]
      have := p4 ((k - n) % 4) hq
      rw [show n + 4 + 4 + (k - n) % 4 = k by omega] at this
      rw [q6 k (by omega), q5 k (by omega)]
      exact this
    · rw [h]
      have := p5 ((k - n) % 4) hq
      rw [show n + 4 + 4 + 4 + (k - n) % 4 = k by omega] at this
      rw [q6 k (by omega)]
      exact this
    · rw [h]
      have := p6 ((k - n) % 4) hq
      rw [show n + 4 + 4 + 4 + 4 + (k - n) % 4 = k by omega] at this
      exact this
/-- nothing but the reference's tape and its length changes -/
def FPr (I I' : MI) : Prop := (∀ a, a ≠ 336 → a ≠ 340 → I' a = I a) ∧ ∀ s, s ≠ 6 → I' 336 s = I 336 s
theorem sh_k : ∀ k, k < 20 → ((24 - (8 * (nI k - nI k / 4 * 4))) &&& 31) = nI (24 - 8 * (k % 4)) := by decide +kernel
theorem r_feed {I : MI} {n : Nat} {a b c d e : Int32} {t : Nat → Nat} {Q : Int32 → MI → Prop} (hn : n ≤ 400) (hl : I 336 6 = nI n) (ht : ∀ k, k < n → I 340 k = nI (t k)) (h1 : n + 20 ≤ 400 → ∀ I', FPr I I' → I' 336 6 = nI (n + 20) → (∀ k, k < n + 20 → I' 340 k = nI (fedT t n (ar a b c d e) k)) → Q (nI (n + 20)) I') (h0 : 400 < n + 20 → Q (-1) I) : wp_X10_feed I a b c d e Q := by
  unfold wp_X10_feed
  rw [hl, show nI n + (20 : Int32) = nI (n + 20) from nI_add n 20]
  refine pk_le (n + 20) 400 (fun z => ⟨21, ?_⟩) (fun z => h0 z)
  have key : ∀ (m k : Nat) (J : MI), k + m = 20 → FPr I J → J 336 6 = nI (n + k) → (∀ s, s < n + k → J 340 s = nI (fedT t n (ar a b c d e) s)) → lp_X10_feed_18 a b c d e Q (m + 1) (nI k) J := by
    intro m
    induction m with
    | zero =>
      intro k J hk f e6 hs
      have hk : k = 20 := by omega
      subst hk
      unfold lp_X10_feed_18
      rw [e6]
      exact ⟨fun _ => h1 z J f e6 hs, fun z => absurd (by decide) z⟩
    | succ m ih =>
      intro k J hk f e6 hs
      have go : ∀ g : Int32, g = ar a b c d e (k / 4) → jn_X10_feed_71 J (nI k) g (fun x10 I11 => (lp_X10_feed_18 a b c d e Q (m + 1) x10 I11)) := by
        intro g hg
        unfold jn_X10_feed_71
        rw [e6, ix_nI (by omega), sh_k k (by omega), ashr_by g (k % 4) (Nat.mod_lt _ (by omega)), nI_1]
        refine ⟨vp_in_nI (by omega) (by omega), fun I8 e8 I9 e9 => ?_⟩
        have g8 : I8 336 6 = nI (n + k) := by rw [e8, u2_ne (by omega)]; exact e6
        rw [g8, nI_1] at e9
        refine ih (k + 1) I9 (by omega) ⟨fun a b c => by rw [e9, u2_ne b, e8, u2_ne c]; exact f.1 a b c, fun s hs => by rw [e9, u2_n2 hs, e8, u2_ne (by omega)]; exact f.2 s hs⟩ (by rw [e9, u2_s]; rfl) (fun s hs' => ?_)
        rw [e9, u2_ne (by omega), e8, u2_at]
        by_cases q : s = n + k
        · rw [if_pos ⟨rfl, q⟩]
          unfold fedT
          rw [if_neg (by omega), hg, q, show n + k - n = k by omega]
        · rw [if_neg (fun h => q h.2)]
          exact hs s (by omega)
      unfold lp_X10_feed_18
      rw [show (20 : Int32) = nI 20 from rfl]
      refine ⟨fun z => absurd z (nI_ge (by omega) (by omega)), fun _ => pk_le 4 k (fun z4 => pk_le 8 k (fun z8 => pk_le 12 k (fun z12 => pk_le 16 k (fun z16 => go e ?_) (fun z16 => go d ?_)) (fun z12 => go c ?_)) (fun z8 => go b ?_)) (fun z4 => go a ?_)⟩
      · unfold ar; rw [if_neg (by omega), if_neg (by omega), if_neg (by omega), if_neg (by omega)]
      · unfold ar; rw [if_neg (by omega), if_neg (by omega), if_neg (by omega), if_pos (by omega)]
      · unfold ar; rw [if_neg (by omega), if_neg (by omega), if_pos (by omega)]
      · unfold ar; rw [if_neg (by omega), if_pos (by omega)]
      · unfold ar; rw [if_pos (by omega)]
  rw [← nI_0]
  refine key 20 0 I (by omega) ⟨fun _ _ _ => rfl, fun _ _ => rfl⟩ hl (fun s hs => ?_)
  rw [ht s (by omega)]
  unfold fedT
  rw [if_pos (by omega)]
theorem c_back {I : MI} {n : Nat} {v : Int32} {Q : Int32 → MI → Prop} (hn : n ≤ 400) (hl : I 0 1 = nI n) (h1 : ∀ m, m ≤ n → v = nI m → ∀ I', I' = u2 I 0 1 (nI (n - m)) → Q (nI (n - m)) I') (h0 : (∀ m, m ≤ n → ¬ v = nI m) → Q (-1) I) : wp_X9_back I v Q := by
  unfold wp_X9_back
  rw [hl]
  refine ⟨fun z => h0 (fun m hm e => ?_), fun z => ?_⟩
  · rw [e] at z; exact absurd z (nI_pos (by omega))
  · obtain ⟨m, hm, rfl⟩ := nI_of z
    refine pk_le m n (fun w I3 e3 => ?_) (fun w => h0 (fun q hq e => ?_))
    · rw [pk_sub w] at e3
      have : I3 0 1 = nI (n - m) := by rw [e3, u2_s]
      rw [this]
      exact h1 m w rfl I3 e3
    · have := (nI_eq hm (by omega)).mp e
      omega
theorem r_back {I : MI} {n : Nat} {v : Int32} {Q : Int32 → MI → Prop} (hn : n ≤ 400) (hl : I 336 6 = nI n) (h1 : ∀ m, m ≤ n → v = nI m → ∀ I', I' = u2 I 336 6 (nI (n - m)) → Q (nI (n - m)) I') (h0 : (∀ m, m ≤ n → ¬ v = nI m) → Q (-1) I) : wp_X10_back I v Q := by
  unfold wp_X10_back
  rw [hl]
  refine r_isN (by omega) (fun m hm e => ⟨fun _ I3 e3 => ?_, fun z => absurd z (by decide)⟩) (fun z => ⟨fun w => absurd rfl w, fun _ => h0 z⟩)
  rw [e, pk_sub hm] at e3
  have : I3 336 6 = nI (n - m) := by rw [e3, u2_s]
  rw [this]
  exact h1 m hm e I3 e3
theorem c_text {I : MI} {L : ML} {t : Nat → Nat} {n : Nat} {Q : Int32 → MI → Prop} (hT : CT I t n) (hl : I 0 1 = nI n) (h0 : ∀ f I', pAll t n (n + 1) B0 0 = .inl f → (∀ k, k ≠ 0 → (k < 312 ∨ 323 ≤ k) → I' k = I k) → I' 0 1 = 0 → Q (-4 - nI f) I') (h1 : ∀ B I', pAll t n (n + 1) B0 0 = .inr B → CR 2 I' L (anew B) → I' 46 1 = I 46 1 → I' 46 2 = 0 → I' 326 10 = 0 → I' 326 11 = 0 → I' 326 12 = 0 → I' 0 1 = 0 → (∀ k, 336 ≤ k → I' k = I k) → Q (nI (sN B 1 1 * sN B 1 0)) I') : wp_X9_text I Q := by
  unfold wp_X9_text
  rw [hl]
  refine c_readAll hT (fun f I2 hp f2 I3 e3 => ⟨fun z => absurd z ?_, fun _ => ?_⟩) (fun B I2 hp f2 p2 I3 e3 => ⟨fun _ => ?_, fun z => absurd rfl z⟩)
  · have := pAll_le _ _ _ _ (Nat.zero_le _) hp
    have := hT.1
    exact nI_nm (by omega)
  · exact h0 f I3 hp (fun k a b => by rw [e3, u2_ne a, f2 k b]) (by rw [e3, u2_s])
  · have p3 : PR 313 I3 B := p2.fr (fun k a b => by rw [e3, u2_ne (by omega)])
    refine c_planCopy (by omega) p3 (fun I5 p5 f5 => ?_)
    refine c_beginAnew (o := 2) (L := L) p5 (fun I6 c6 f6 => ?_)
    unfold wp_X0_forget wp_X8_forget
    intro I7 e7 I8a e8a I8b e8b I8 e8
    have c8 : CR 2 I8 L (anew B) := c6.frame (fun k a b => ⟨by rw [e8, u2_ne (by omega), e8b, u2_ne (by omega), e8a, u2_ne (by omega), e7, u2_ne (by omega)], rfl⟩)
    have fr : ∀ k, k ≠ 326 → k ≠ 46 → (k < 2 ∨ 24 ≤ k) → I8 k = I3 k := fun k a b c => by rw [e8, u2_ne a, e8b, u2_ne a, e8a, u2_ne a, e7, u2_ne b, (f6 k (by omega)).1, f5 k (by omega)]
    have g1 : I8 3 1 = nI (sN B 1 1) := c8.n (j := 1) (i := 1) (nd1 (by omega))
    have g0 : I8 3 0 = nI (sN B 1 0) := c8.n (j := 1) (i := 0) (nd1 (by omega))
    rw [g1, g0, pk_mul]
    refine h1 B I8 hp c8 ?_ ?_ ?_ ?_ ?_ ?_ (fun k hk => ?_)
    · rw [e8, u2_ne (by omega), e8b, u2_ne (by omega), e8a, u2_ne (by omega), e7, u2_n2 (by omega), (f6 46 (by omega)).1, f5 46 (by omega), e3, u2_ne (by omega), f2 46 (by omega)]
    · rw [e8, u2_ne (by omega), e8b, u2_ne (by omega), e8a, u2_ne (by omega), e7, u2_s]
    · rw [e8, u2_n2 (by omega), e8b, u2_n2 (by omega), e8a, u2_s]
    · rw [e8, u2_n2 (by omega), e8b, u2_s]
    · rw [e8, u2_s]
    · rw [fr 0 (by omega) (by omega) (by omega), e3, u2_s]
    · rw [fr k (by omega) (by omega) (by omega), e3, u2_ne (by omega), f2 k (by omega)]
