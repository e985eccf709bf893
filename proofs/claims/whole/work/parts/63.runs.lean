/-- a state in play, between acts -/
def Good (A : St) : Prop := SetOk A ∧ DynOk A ∧ Rest A
/-- the plan stays -/
def PL (A B : St) : Prop := ∀ j, 1 ≤ j → j ≤ 9 → sN B j = sN A j
theorem PL.rf {A : St} : PL A A := fun _ _ _ => rfl
theorem PL.tr {A B D : St} (h : PL A B) (h2 : PL B D) : PL A D := fun j a b => (h2 j a b).trans (h j a b)
theorem PL.vc {A B : St} (h : PL A B) (c : Nat) : vc B c ↔ vc A c := vc_eq (h 1 (by omega) (by omega)) c
/-- a draw: the next number, and what it is held against -/
def fxx (x : Int32) : Int32 × Int32 := (x * 1103515245 + 12345, usr (x * 1103515245 + 12345) 8 - usr (x * 1103515245 + 12345) 8 / 12 * 12)
def draw1 (A : St) (x : Int32) (c : Nat) : St := if nI (sN A 8 c) ≤ x then A else if sN A 11 c < sN A 7 c then brk A c else A
def drawP (f : Int32 → Int32 × Int32) : Nat → Nat → Nat → Int32 × St → Int32 × St
  | 0, _, _, s => s
  | n + 1, b, p, s => drawP f n b (p + 1) ((f s.1).1, draw1 s.2 (f s.1).2 (4 * b + p))
def drawB (f : Int32 → Int32 × Int32) : Nat → Nat → Int32 × St → Int32 × St
  | 0, _, s => s
  | n + 1, b, s => drawB f n (b + 1) (drawP f (sN s.2 1 0) b 0 s)
def drawD (f : Int32 → Int32 × Int32) : Nat → Int32 × St → Int32 × St
  | 0, s => s
  | n + 1, s => drawD f n ((drawB f (sN s.2 1 1) 0 s).1, goDay (drawB f (sN s.2 1 1) 0 s).2)
theorem draw1_ok {A : St} {x : Int32} {c : Nat} (h : Good A) (hv : vc A c) : Good (draw1 A x c) ∧ PL A (draw1 A x c) ∧ sN (draw1 A x c) 0 9 = sN A 0 9 ∧ sN (draw1 A x c) 0 10 ≤ sN A 0 10 + 190 := by
  unfold draw1
  by_cases h1 : nI (sN A 8 c) ≤ x
  · rw [if_pos h1]; exact ⟨h, PL.rf, rfl, by omega⟩
  · rw [if_neg h1]
    by_cases h2 : sN A 11 c < sN A 7 c
    · rw [if_pos h2]
      obtain ⟨a1, a2, a3, a4, a5, a6⟩ := brk_ok h.1 h.2.1 hv h2
      exact ⟨⟨a1, a2, brk_rest h.1 h.2.1 hv h2 h.2.2⟩, a3.2.1, a3.1, a4⟩
    · rw [if_neg h2]; exact ⟨h, PL.rf, rfl, by omega⟩
theorem drawP_ok (f : Int32 → Int32 × Int32) : ∀ (n b p : Nat) (s : Int32 × St), Good s.2 → b < sN s.2 1 1 → p + n ≤ sN s.2 1 0 → Good (drawP f n b p s).2 ∧ PL s.2 (drawP f n b p s).2 ∧ sN (drawP f n b p s).2 0 9 = sN s.2 0 9 ∧ sN (drawP f n b p s).2 0 10 ≤ sN s.2 0 10 + 190 * n
  | 0, b, p, s, h, _, _ => ⟨h, PL.rf, rfl, by unfold drawP; omega⟩
  | n + 1, b, p, s, h, hb, hp => by
    have h3 := h.1.1.1
    obtain ⟨a1, a2, a3, a4⟩ := draw1_ok (x := (f s.1).2) h (c := 4 * b + p) ⟨by omega, by omega⟩
    have e := a2 1 (by omega) (by omega)
    obtain ⟨b1, b2, b3, b4⟩ := drawP_ok f n b (p + 1) ((f s.1).1, draw1 s.2 (f s.1).2 (4 * b + p)) a1 (by simp only [e]; exact hb) (by simp only [e]; omega)
    unfold drawP
    simp only at b1 b2 b3 b4
    exact ⟨b1, a2.tr b2, b3.trans a3, by omega⟩
theorem drawB_ok (f : Int32 → Int32 × Int32) : ∀ (n b : Nat) (s : Int32 × St), Good s.2 → b + n ≤ sN s.2 1 1 → Good (drawB f n b s).2 ∧ PL s.2 (drawB f n b s).2 ∧ sN (drawB f n b s).2 0 9 = sN s.2 0 9 ∧ sN (drawB f n b s).2 0 10 ≤ sN s.2 0 10 + 570 * n
  | 0, b, s, h, _ => ⟨h, PL.rf, rfl, by unfold drawB; omega⟩
  | n + 1, b, s, h, hb => by
    have h3 := h.1.1.1
    obtain ⟨a1, a2, a3, a4⟩ := drawP_ok f (sN s.2 1 0) b 0 s h (by omega) (by omega)
    have e := a2 1 (by omega) (by omega)
    obtain ⟨b1, b2, b3, b4⟩ := drawB_ok f n (b + 1) (drawP f (sN s.2 1 0) b 0 s) a1 (by rw [e]; omega)
    unfold drawB
    exact ⟨b1, a2.tr b2, b3.trans a3, by omega⟩
theorem day1_ok (f : Int32 → Int32 × Int32) (s : Int32 × St) (h : Good s.2) (hd : sN s.2 0 9 < 10000) : Good (goDay (drawB f (sN s.2 1 1) 0 s).2) ∧ PL s.2 (goDay (drawB f (sN s.2 1 1) 0 s).2) ∧ sN (goDay (drawB f (sN s.2 1 1) 0 s).2) 0 9 = sN s.2 0 9 + 1 ∧ sN (goDay (drawB f (sN s.2 1 1) 0 s).2) 0 10 ≤ sN s.2 0 10 + 37000 := by
  have h3 := h.1.1.2.1
  obtain ⟨a1, a2, a3, a4⟩ := drawB_ok f (sN s.2 1 1) 0 s h (by omega)
  obtain ⟨b1, b2, b3, b4, b5, b6, b7⟩ := goDay_ok a1.1 a1.2.1 a1.2.2 (by omega)
  exact ⟨⟨b1, b2, b3⟩, a2.tr b7, by omega, by omega⟩
theorem drawD_ok (f : Int32 → Int32 × Int32) : ∀ (n : Nat) (s : Int32 × St), Good s.2 → sN s.2 0 9 + n ≤ 10000 → Good (drawD f n s).2 ∧ PL s.2 (drawD f n s).2 ∧ sN (drawD f n s).2 0 9 = sN s.2 0 9 + n ∧ sN (drawD f n s).2 0 10 ≤ sN s.2 0 10 + 37000 * n
  | 0, s, h, _ => ⟨h, PL.rf, rfl, by unfold drawD; omega⟩
  | n + 1, s, h, hd => by
    obtain ⟨a1, a2, a3, a4⟩ := day1_ok f s h (by omega)
    obtain ⟨b1, b2, b3, b4⟩ := drawD_ok f n ((drawB f (sN s.2 1 1) 0 s).1, goDay (drawB f (sN s.2 1 1) 0 s).2) a1 (by simp only; omega)
    unfold drawD
    simp only at b1 b2 b3 b4
    exact ⟨b1, a2.tr b2, by omega, by omega⟩
section CRUN
variable {o : Nat}
theorem c_drawP {f : Int32 → Int32 × Int32} (hf : ∀ x, f x = fxx x) {b : Nat} {kf : Int32 → MI → ML → Prop} : ∀ (n p : Nat) (x : Int32) (A : St) (I : MI) (L : ML), CR o I L A → Good A → b < sN A 1 1 → p + n = sN A 1 0 → sN A 0 10 + 190 * n + 200 < 2 ^ 30 → (∀ I' L', CR o I' L' (drawP f n b p (x, A)).2 → Fr o I L I' L' → kf (drawP f n b p (x, A)).1 I' L') → lp_X2_drawDays_35 o (nI b) kf (n + 1) x (nI p) I L := by
  intro n
  induction n with
  | zero =>
    intro p x A I L h hg hb hp hbd hk
    have h3 := hg.1.1.1
    have e : I (o + 1) 0 = nI (sN A 1 0) := h.n (nd1 (by omega))
    unfold lp_X2_drawDays_35
    rw [e]
    exact ⟨fun _ => hk I L h Fr.rf, fun z => absurd (nI_le (by omega) (by omega)) z⟩
  | succ n ih =>
    intro p x A I L h hg hb hp hbd hk
    have h3 := hg.1.1.1
    have h4 := hg.1.1.2.1
    have e : I (o + 1) 0 = nI (sN A 1 0) := h.n (nd1 (by omega))
    have h16 : 4 * b + p < 16 := by omega
    have hv : vc A (4 * b + p) := ⟨by omega, by omega⟩
    have hm : nI (4 * b + p) &&& 15 = nI (4 * b + p) := by rw [nI_m15, Nat.mod_eq_of_lt h16]
    have e8 : I (o + 8) (4 * b + p) = nI (sN A 8 (4 * b + p)) := h.n (nd8 h16)
    obtain ⟨a1, a2, a3, a4⟩ := draw1_ok (x := (f x).2) hg hv
    have e1 := a2 1 (by omega) (by omega)
    have nxt : ∀ (I1 : MI) (L1 : ML), CR o I1 L1 (draw1 A (f x).2 (4 * b + p)) → Fr o I L I1 L1 → lp_X2_drawDays_35 o (nI b) kf (n + 1) (f x).1 (nI p + 1) I1 L1 := by
      intro I1 L1 h1 f1
      rw [nI_1]
      refine ih (p + 1) (f x).1 _ I1 L1 h1 a1 (by rw [e1]; exact hb) (by rw [e1]; omega) (by omega) (fun I' L' h' f' => hk I' L' h' (f1.tr f'))
    unfold lp_X2_drawDays_35
    have hf2 : usr (x * 1103515245 + 12345) 8 - usr (x * 1103515245 + 12345) 8 / 12 * 12 = (f x).2 := by rw [hf]; rfl
    have hf1 : x * 1103515245 + 12345 = (f x).1 := by rw [hf]; rfl
    rw [e, hf2, hf1]
    refine ⟨fun z => absurd z (nI_ge (by omega) (by omega)), fun _ => s_placeOf ?_⟩
    rw [hm, ix_nI (by omega), e8]
    refine ⟨vp_in_nI h16 (by omega), fun z => ?_, fun z => ?_⟩
    · refine nxt I L ?_ Fr.rf
      unfold draw1
      rw [if_pos z]
      exact h
    · refine c_canBreak h hg.1 hg.2.1 h16 (fun q => ⟨fun w => absurd w (by decide), fun _ => ?_⟩) (fun q => ⟨fun _ => ?_, fun w => absurd rfl w⟩)
      · refine c_breakPiece h hg.1 hg.2.1 hv q (by omega) (fun I1 L1 h1 f1 => ?_)
        refine nxt I1 L1 ?_ f1
        unfold draw1
        rw [if_neg z, if_pos (show sN A 11 (4 * b + p) < sN A 7 (4 * b + p) from q)]
        exact h1
      · refine nxt I L ?_ Fr.rf
        unfold draw1
        rw [if_neg z, if_neg (show ¬ sN A 11 (4 * b + p) < sN A 7 (4 * b + p) from q)]
        exact h
theorem c_drawB {f : Int32 → Int32 × Int32} (hf : ∀ x, f x = fxx x) {kf : Int32 → MI → ML → Prop} : ∀ (n b : Nat) (x : Int32) (A : St) (I : MI) (L : ML), CR o I L A → Good A → b + n = sN A 1 1 → sN A 0 10 + 570 * n + 800 < 2 ^ 30 → (∀ I' L', CR o I' L' (drawB f n b (x, A)).2 → Fr o I L I' L' → kf (drawB f n b (x, A)).1 I' L') → lp_X2_drawDays_20 o kf (n + 1) x (nI b) I L := by
  intro n
  induction n with
  | zero =>
    intro b x A I L h hg hb hbd hk
    have h3 := hg.1.1.2.1
    have e : I (o + 1) 1 = nI (sN A 1 1) := h.n (nd1 (by omega))
    unfold lp_X2_drawDays_20
    rw [e]
    exact ⟨fun _ => hk I L h Fr.rf, fun z => absurd (nI_le (by omega) (by omega)) z⟩
  | succ n ih =>
    intro b x A I L h hg hb hbd hk
    have h3 := hg.1.1.1
    have h4 := hg.1.1.2.1
    have e : I (o + 1) 1 = nI (sN A 1 1) := h.n (nd1 (by omega))
    obtain ⟨a1, a2, a3, a4⟩ := drawP_ok f (sN A 1 0) b 0 (x, A) hg (by simp only; omega) (by simp only; omega)
    have e1 := a2 1 (by omega) (by omega)
    simp only at a1 a2 a3 a4 e1
    unfold lp_X2_drawDays_20
    rw [e]
    refine ⟨fun z => absurd z (nI_ge (by omega) (by omega)), fun _ => ⟨sN A 1 0 + 1, ?_⟩⟩
    rw [← nI_0]
    refine c_drawP hf (sN A 1 0) 0 x A I L h hg (by omega) (by omega) (by omega) (fun I1 L1 h1 f1 => ?_)
    rw [nI_1]
    exact ih (b + 1) _ _ I1 L1 h1 a1 (by rw [e1]; omega) (by omega) (fun I' L' h' f' => hk I' L' h' (f1.tr f'))
theorem c_drawD {f : Int32 → Int32 × Int32} (hf : ∀ x, f x = fxx x) {m : Nat} {kf : MI → ML → Prop} (hm : m < 2 ^ 31) : ∀ (n d : Nat) (x : Int32) (A : St) (I : MI) (L : ML), CR o I L A → Good A → d + n = m → sN A 0 9 + n ≤ 10000 → sN A 0 10 + 37000 * n + 40000 < 2 ^ 30 → (∀ I' L', CR o I' L' (drawD f n (x, A)).2 → Fr o I L I' L' → kf I' L') → lp_X2_drawDays_11 o (nI m) kf (n + 1) x (nI d) I L := by
  intro n
  induction n with
  | zero =>
    intro d x A I L h hg hd h9 hbd hk
    unfold lp_X2_drawDays_11
    exact ⟨fun _ => hk I L h Fr.rf, fun z => absurd (nI_le (by omega) (by omega)) z⟩
  | succ n ih =>
    intro d x A I L h hg hd h9 hbd hk
    have h4 := hg.1.1.2.1
    obtain ⟨a1, a2, a3, a4⟩ := drawB_ok f (sN A 1 1) 0 (x, A) hg (by simp only; omega)
    obtain ⟨b1, b2, b3, b4⟩ := day1_ok f (x, A) hg (by simp only; omega)
    simp only at a1 a2 a3 a4 b1 b2 b3 b4
    unfold lp_X2_drawDays_11
    refine ⟨fun z => absurd z (nI_ge (by omega) (by omega)), fun _ => ⟨sN A 1 1 + 1, ?_⟩⟩
    rw [← nI_0]
    refine c_drawB hf (sN A 1 1) 0 x A I L h hg (by omega) (by omega) (fun I1 L1 h1 f1 => ?_)
    refine c_goBy h1 a1.1 a1.2.1 (by omega) (by omega) (fun I2 L2 h2 f2 => ?_)
    rw [nI_1]
    exact ih (d + 1) _ _ I2 L2 h2 b1 (by omega) (by omega) (by omega) (fun I' L' h' f' => hk I' L' h' ((f1.tr f2).tr f'))
theorem c_drawDays {f : Int32 → Int32 × Int32} (hf : ∀ x, f x = fxx x) {I : MI} {L : ML} {A : St} {n : Nat} {x : Int32} {Q : Int32 → MI → ML → Prop} (h : CR o I L A) (hg : Good A) (hn : n < 2 ^ 31) (h9 : sN A 0 9 + n ≤ 10000) (hbd : sN A 0 10 + 37000 * n + 40000 < 2 ^ 30) (hQ : ∀ I' L', CR o I' L' (drawD f n (x, A)).2 → Fr o I L I' L' → Q (sT (drawD f n (x, A)).2 0 12 - sT A 0 12) I' L') : wp_X2_drawDays o I L (nI n) x Q := by
  unfold wp_X2_drawDays
  refine ⟨n + 1, ?_⟩
  rw [← nI_0]
  refine c_drawD hf hn n 0 x A I L h hg (by omega) h9 hbd (fun I' L' h' f' => ?_)
  rw [h.t0 (i := 12) (by omega) (by omega), h'.t0 (i := 12) (by omega) (by omega)]
  exact hQ I' L' h' f'
-- till all is quiet
def qVal : Nat → St → Int32
  | 0, A => match sY A with
    | [] => nI (sN A 0 9)
    | _ :: _ => -2
  | n + 1, A => match sY A with
    | [] => nI (sN A 0 9)
    | _ :: _ => qVal n (goDay A)
theorem lendF_congr {A B : St} (h1 : sN B 1 = sN A 1) (h2 : sN B 10 = sN A 10) (h3 : sN B 6 = sN A 6) (c : Nat) : ∀ n, lendF B c n = lendF A c n
  | 0 => rfl
  | n + 1 => by
    unfold lendF
    rw [lendF_congr h1 h2 h3 c n, h1, h2, h3]
theorem setN_ne {A : St} {j i v k : Nat} (h : k ≠ j) : sN (setN A j i v) k = sN A k := by
  show u2 A.1 j i v k = A.1 k
  exact u2_ne h
theorem NL.day {A : St} {d : Nat} (h : NL A) : NL (setN A 0 9 d) := by
  intro w hw hm
  rw [lendF_congr (A := A) (setN_ne (by omega)) (setN_ne (by omega)) (setN_ne (by omega)), setN_ne (by omega)]
  exact h w hw hm
theorem goDay_skip {A : St} (h : NL A) (hf : ∀ y ∈ sY A, sN A 0 9 + 1 < y.2.2.2) : goDay A = setN A 0 9 (sN A 0 9 + 1) := by
  have e9 : sN (setN A 0 9 (sN A 0 9 + 1)) 0 9 = sN A 0 9 + 1 := by simp [sN, setN, u2_at]
  have e : arr 184 (setN A 0 9 (sN A 0 9 + 1)) = setN A 0 9 (sN A 0 9 + 1) := by
    unfold arr
    cases hy : sY A with
    | nil => simp only [hy]
    | cons y ys =>
      simp only [hy]
      rw [if_neg]
      have := hf y (by rw [hy]; exact List.mem_cons_self)
      rw [e9]
      omega
  show lends (sW (arr 184 (setN A 0 9 (sN A 0 9 + 1)))).length 0 (arr 184 (setN A 0 9 (sN A 0 9 + 1))) = _
  rw [e, lends_NL h.day]
theorem setN_self {A : St} {j i : Nat} : setN A j i (sN A j i) = A := by
  show (u2 A.1 j i (A.1 j i), A.2) = A
  have : u2 A.1 j i (A.1 j i) = A.1 := by
    funext a b
    rw [u2_at]
    by_cases h : a = j ∧ b = i
    · rw [if_pos h, h.1, h.2]
    · rw [if_neg h]
  rw [this]
theorem setN_setN {A : St} {j i v w : Nat} : setN (setN A j i v) j i w = setN A j i w := by
  show (u2 (u2 A.1 j i v) j i w, A.2) = (u2 A.1 j i w, A.2)
  have : u2 (u2 A.1 j i v) j i w = u2 A.1 j i w := by
    funext a b
    rw [u2_at, u2_at, u2_at]
    by_cases h : a = j ∧ b = i
    · rw [if_pos h, if_pos h]
    · rw [if_neg h, if_neg h, if_neg h]
  rw [this]
theorem qVal_skip {n : Nat} : ∀ (j : Nat) (A : St), NL A → sY A ≠ [] → (∀ y ∈ sY A, sN A 0 9 + j < y.2.2.2) → qVal (n + j) A = qVal n (setN A 0 9 (sN A 0 9 + j))
  | 0, A, _, _, _ => by rw [Nat.add_zero, Nat.add_zero, setN_self]
  | j + 1, A, h, hne, hf => by
    have e9 : sN (setN A 0 9 (sN A 0 9 + 1)) 0 9 = sN A 0 9 + 1 := by simp [sN, setN, u2_at]
    have e : qVal (n + (j + 1)) A = qVal (n + j) (goDay A) := by
      show qVal (n + j + 1) A = _
      conv => lhs; unfold qVal
      cases hy : sY A with
      | nil => exact absurd hy hne
      | cons y ys => rfl
    rw [e, goDay_skip h (fun y hy => by have := hf y hy; omega), qVal_skip j (setN A 0 9 (sN A 0 9 + 1)) h.day hne (fun y hy => by have := hf y hy; rw [e9]; omega), setN_setN, e9]
    congr 2
    omega
theorem c_goTillQuiet {I : MI} {L : ML} {A : St} {Q : Int32 → MI → ML → Prop} (h : CR o I L A) (hg : Good A) (h9 : sN A 0 9 ≤ 9999) (hb : sN A 0 10 + 37000 * (9999 - sN A 0 9) + 40000 < 2 ^ 30) (hQ : ∀ I' L', Fr o I L I' L' → Q (qVal (9999 - sN A 0 9) A) I' L') : wp_X2_goTillQuiet o I L Q := by
  have key : ∀ (f : Nat) (i : Nat) (A : St) (I : MI) (L : ML), CR o I L A → Good A → (0 < i → NL A) → sN A 0 9 ≤ 9999 → i ≤ sN A 0 9 → sN A 0 10 + 37000 * (9999 - sN A 0 9) + 40000 < 2 ^ 30 → 9999 - sN A 0 9 < f → (∀ I' L', Fr o I L I' L' → Q (qVal (9999 - sN A 0 9) A) I' L') → lp_X2_goTillQuiet_2 o Q (fun I17 L18 => (jn_X2_goTillQuiet_76 o I17 L18 Q)) f (nI i) I L := by
    intro f
    induction f with
    | zero => intro i A I L _ _ _ _ _ _ hf; omega
    | succ f ih =>
      intro i A I L h hg hnl h9 hi hb hf hQ
      have eY := h.Y.1
      rw [List.length_map] at eY
      have e9 : I o 9 = nI (sN A 0 9) := h.n (nd0 (by omega) (by omega))
      have hyl := hg.2.1.yl
      unfold lp_X2_goTillQuiet_2
      rw [eY, e9]
      refine ⟨fun z => absurd z (by rw [show (9999 : Int32) = nI 9999 from rfl]; exact nI_nlt (by omega) (by omega)), fun _ => ?_⟩
      cases hy : sY A with
      | nil =>
        refine ⟨fun _ => ?_, fun z => absurd (by decide) z⟩
        unfold jn_X2_goTillQuiet_76
        rw [eY, e9, hy]
        refine ⟨fun z => absurd rfl z, fun _ => ?_⟩
        have : qVal (9999 - sN A 0 9) A = nI (sN A 0 9) := by
          cases 9999 - sN A 0 9 with
          | zero => unfold qVal; rw [hy]
          | succ n => unfold qVal; rw [hy]
        rw [← this]
        exact hQ I L Fr.rf
      | cons y ys =>
        rw [hy] at hyl eY
        have hlen : 0 < (y :: ys).length := by simp
        refine ⟨fun z => absurd z (by rw [show (0 : Int32) = nI 0 from rfl]; exact nI_ge hlen (by omega)), fun _ => ?_⟩
        refine ⟨fun z => ?_, fun z => ?_⟩
        · have z : sN A 0 9 < 9999 := (nI_ltI (b := 9999) (by omega) (by omega)).mp z
          refine pk_le i 0 (fun w => ?_) (fun w => ?_)
          · unfold jn_X2_goTillQuiet_66
            obtain ⟨b1, b2, b3, b4, b5, b6, b7⟩ := goDay_ok hg.1 hg.2.1 hg.2.2 (by omega)
            refine c_goBy h hg.1 hg.2.1 (by omega) (by omega) (fun I2 L2 h2 f2 => ?_)
            rw [nI_1]
            refine ih (i + 1) (goDay A) I2 L2 h2 ⟨b1, b2, b3⟩ (fun _ => b4) (by omega) (by omega) (by omega) (by omega) (fun I' L' f' => ?_)
            have : qVal (9999 - sN A 0 9) A = qVal (9999 - sN (goDay A) 0 9) (goDay A) := by
              obtain ⟨n, hn⟩ : ∃ n, 9999 - sN A 0 9 = n + 1 := ⟨9998 - sN A 0 9, by omega⟩
              rw [hn, b5, show 9999 - (sN A 0 9 + 1) = n by omega]
              conv => lhs; unfold qVal
              rw [hy]
            rw [← this]
            exact hQ I' L' (f2.tr f')
          · have hnl := hnl w
            have hmem : y ∈ sY A := by rw [hy]; exact List.mem_cons_self
            have hwf := hg.2.1.wf hg.1 (by omega)
            have hok := okY hwf hmem
            have hat : ((sY A).map encY)[0]? = some (encY y) := by rw [hy]; rfl
            have hyd := hg.2.2.1 y hmem
            have hy18 := (hg.2.1.2.2.2.2.2.1 y hmem).2.2.2
            rw [← nI_0]
            refine r_at h.Y hat (s_day hok (fun I12 e12 => ?_))
            obtain ⟨m, hm⟩ : ∃ m, y.2.2.2 = m + 1 := ⟨y.2.2.2 - 1, by omega⟩
            rw [hm, nI_pred] at e12
            have hle : sN A 0 9 ≤ m := by omega
            have emax : (if nI (sN A 0 9) < nI m then nI m else nI (sN A 0 9)) = nI m := by
              by_cases hq : sN A 0 9 < m
              · rw [if_pos (nI_lt hq (by omega))]
              · rw [if_neg (nI_nlt (by omega) (by omega)), show sN A 0 9 = m by omega]
            rw [emax] at e12
            obtain ⟨d, hd1, hd2, hd3, hd4⟩ : ∃ d, (if (9998 : Int32) < nI m then (9998 : Int32) else nI m) = nI d ∧ sN A 0 9 ≤ d ∧ d ≤ m ∧ d ≤ 9998 := by
              by_cases hq : 9998 < m
              · exact ⟨9998, by rw [if_pos (show (9998 : Int32) < nI m from nI_lt (a := 9998) hq (by omega))]; rfl, by omega, by omega, by omega⟩
              · exact ⟨m, by rw [if_neg (show ¬ (9998 : Int32) < nI m from nI_nlt (b := m) (a := 9998) (by omega) (by omega))], by omega, by omega, by omega⟩
            rw [hd1] at e12
            have h12 := h.putN (j := 0) (nd0 (by omega) (by omega)) e12
            have f12 : Fr o I L I12 L := Fr.uI (j := 0) e12 (by omega)
            have e9' : sN (setN A 0 9 d) 0 9 = d := by simp [sN, setN, u2_at]
            have e10' : sN (setN A 0 9 d) 0 10 = sN A 0 10 := by simp [sN, setN, u2_at]
            have e11' : sN (setN A 0 9 d) 0 11 = sN A 0 11 := by simp [sN, setN, u2_at]
            obtain ⟨a1, a2⟩ := day_ok (d := d) hg.1 hg.2.1 (by omega) (by omega)
            have hall : ∀ z ∈ sY A, y.2.2.2 ≤ z.2.2.2 := by
              have hp := hg.2.1.2.2.2.2.2.2.2.2.2.2.1
              intro z hz
              rw [hy] at hz hp
              rcases List.mem_cons.mp hz with rfl | hz
              · exact Nat.le_refl _
              · have := (List.pairwise_cons.mp hp).1 z hz
                unfold ltY at this
                omega
            have hr : Rest (setN A 0 9 d) := by
              refine ⟨fun z hz => ?_, ?_⟩
              · have := hall z hz
                rw [e9']
                omega
              · unfold fullQ
                rw [e11', setN_ne (by omega)]
                exact hg.2.2.2
            obtain ⟨b1, b2, b3, b4, b5, b6, b7⟩ := goDay_ok a1 a2 hr (by omega)
            unfold jn_X2_goTillQuiet_66
            refine c_goBy h12 a1 a2 (by omega) (by omega) (fun I2 L2 h2 f2 => ?_)
            rw [nI_1]
            refine ih (i + 1) (goDay (setN A 0 9 d)) I2 L2 h2 ⟨b1, b2, b3⟩ (fun _ => b4) (by omega) (by omega) (by omega) (by omega) (fun I' L' f' => ?_)
            have : qVal (9999 - sN A 0 9) A = qVal (9999 - sN (goDay (setN A 0 9 d)) 0 9) (goDay (setN A 0 9 d)) := by
              obtain ⟨n, hn⟩ : ∃ n, 9999 - d = n + 1 := ⟨9998 - d, by omega⟩
              obtain ⟨j, hj⟩ : ∃ j, d = sN A 0 9 + j := ⟨d - sN A 0 9, by omega⟩
              have h1 := qVal_skip (n := 9999 - d) j A hnl (by rw [hy]; simp) (fun z hz => by have := hall z hz; omega)
              rw [← hj, show 9999 - d + j = 9999 - sN A 0 9 by omega] at h1
              rw [h1, b5, e9', hn, show 9999 - (d + 1) = n by omega]
              conv => lhs; unfold qVal
              show (match sY A with | [] => _ | _ :: _ => _) = _
              rw [hy]
            rw [← this]
            exact hQ I' L' ((f12.tr f2).tr f')
        · have z : sN A 0 9 = 9999 := by
            rcases Nat.lt_or_ge (sN A 0 9) 9999 with q | q
            · exact absurd (nI_lt (b := 9999) q (by omega)) z
            · omega
          have : qVal (9999 - sN A 0 9) A = -2 := by
            rw [z]
            show qVal 0 A = _
            unfold qVal
            rw [hy]
          rw [← this]
          exact hQ I L Fr.rf
  unfold wp_X2_goTillQuiet
  refine ⟨10000, ?_⟩
  rw [← nI_0]
  exact key 10000 0 A I L h hg (fun z => absurd z (by omega)) h9 (by omega) hb (by omega) hQ
end CRUN
