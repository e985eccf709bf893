/-! what is asked: values of the abstract state, and the class's answers -/
def isC (p : Nat) (c : Nat × Nat) : Bool := c.1 % 4 == p
def partV (A : St) (p : Nat) (v : Int32) : Int32 := if v = 0 then nI (sN A 2 p) else if v = 1 then nI (sN A 3 p) else if v = 2 then nI (sN A 4 p) else if v = 3 then nI (sN A 5 p) else if v = 4 then nI (sN A 13 p) else if v = 5 then nI ((sC A).countP (fun c => c.1 % 4 == p)) else if v = 6 then nI ((sQ A).countP (fun q => q == p)) else if v = 7 then nI ((sY A).countP (fun y => y.1 == 2 && y.2.2.1 % 4 == p)) else if v = 8 then nI ((sY A).countP (fun y => y.1 == 1 && y.2.2.1 % 4 == p)) else -1
def baseV (A : St) (b : Nat) (v : Int32) : Int32 := if v = 0 then nI (sN A 6 b) else if v = 1 then nI ((sW A).countP (fun c => c.1 / 4 == b)) else if v = 2 then nI ((sC A).countP (fun c => c.1 / 4 == b)) else if v = 3 then nI ((sY A).countP (fun y => (y.1 == 3 || y.1 == 4) && y.2.2.1 / 4 == b)) else if v = 4 then nI (tot (fun p => sN A 10 (4 * b + p)) (sN A 1 0)) else -1
def cellV (A : St) (c : Nat) (v : Int32) : Int32 := if v = 0 then nI (sN A 7 c) else if v = 1 then nI (sN A 8 c) else if v = 2 then nI (sN A 9 c) else if v = 3 then nI (sN A 10 c) else if v = 4 then nI (sN A 11 c) else if v = 5 then nI ((sC A).countP (fun x => x.1 == c)) else if v = 6 then nI ((sY A).countP (fun y => (y.1 == 3 || y.1 == 4) && y.2.2.1 == c)) else if v = 7 then nI ((sY A).countP (fun y => y.1 == 0 && y.2.2.1 == c)) else if v = 8 then sT A 12 c else -1
theorem usr_1 : ∀ k, k ≤ 4 → (((usr 4 (nI k)) &&& 1) = 1 ↔ k = 2) ∧ (((usr 2 (nI k)) &&& 1) = 1 ↔ k = 1) ∧ (((usr 24 (nI k)) &&& 1) = 1 ↔ k = 3 ∨ k = 4) ∧ (((usr 1 (nI k)) &&& 1) = 1 ↔ k = 0) := by decide +kernel
section ASK
variable {I : MI} {L : ML} {A : St}
theorem r_countM {α : Type} {r N : Nat} {xs : List α} {e : α → Int64} {v1 v2 : Int32} {Q : Int32 → Prop} (P : α → Bool) (h : rowIs I L r N (xs.map e)) (hP : ∀ x ∈ xs, (lg_cmp (e x &&& v1.toInt64) v2.toInt64 = 0) ↔ P x = true) (hQ : Q (nI (xs.countP P))) : wp_X4_countAt r N I L v1 v2 Q := by
  have key : ∀ (n i m : Nat), i + n = xs.length → Q (nI (m + (xs.drop i).countP P)) → lp_X4_countAt_5 r N I L v1 v2 Q (n + 1) (nI m) (nI i) := by
    have hsz := h.sz
    have hN := h.2.1
    have hzN := h.2.2.1
    have eN := h.1
    rw [List.length_map] at hsz hN eN
    intro n
    induction n with
    | zero =>
      intro i m hi hq
      unfold lp_X4_countAt_5
      rw [eN]
      refine ⟨fun _ => ?_, fun z => absurd (nI_le (by omega) (by omega)) z⟩
      rw [List.drop_of_length_le (by omega)] at hq
      exact hq
    | succ n ih =>
      intro i m hi hq
      have hil : i < xs.length := by omega
      have hmem := List.getElem_mem hil
      have hat : (xs.map e)[i]? = some (e xs[i]) := by rw [List.getElem?_map, List.getElem?_eq_getElem hil]; rfl
      rw [List.drop_eq_getElem_cons hil, List.countP_cons] at hq
      have hp := hP _ hmem
      unfold lp_X4_countAt_5 jn_X4_countAt_33
      rw [eN, ix_nI (by omega), h.2.2.2 i _ hat, nI_1, nI_1]
      refine ⟨fun z => absurd z (nI_ge (by omega) (by omega)), fun _ => ⟨vp_in_nI (by omega) hzN, fun z => ?_, fun z => ?_⟩⟩
      · have : P xs[i] = false := by
          rcases Bool.eq_false_or_eq_true (P xs[i]) with q | q
          · exact absurd (hp.mpr q) z
          · exact q
        rw [this] at hq
        exact ih (i + 1) m (by omega) (by simpa using hq)
      · rw [hp.mp z] at hq
        refine ih (i + 1) (m + 1) (by omega) ?_
        rw [show m + 1 + (xs.drop (i + 1)).countP P = m + ((xs.drop (i + 1)).countP P + 1) by omega]
        simpa using hq
  unfold wp_X4_countAt
  refine ⟨xs.length + 1, ?_⟩
  rw [← nI_0]
  exact key xs.length 0 0 (by omega) (by simpa using hQ)
theorem c_part {p : Nat} {v : Int32} {Q : Int32 → Prop} (h : CR 2 I L A) (hs : SetOk A) (hd : DynOk A) (hw : Wf A) (hp : p < sN A 1 0) (hQ : Q (partV A p v)) : wp_X9_part I L (nI p) v Q := by
  have h3 := hs.1.1
  have vp : vp_in (nI p) 4 := vp_in_nI (by omega) (by omega)
  have e4 : I 4 p = nI (sN A 2 p) := h.n (j := 2) (ndp (by omega) (by omega) (by omega))
  have e5 : I 5 p = nI (sN A 3 p) := h.n (j := 3) (ndp (by omega) (by omega) (by omega))
  have e6 : I 6 p = nI (sN A 4 p) := h.n (j := 4) (ndp (by omega) (by omega) (by omega))
  have e7 : I 7 p = nI (sN A 5 p) := h.n (j := 5) (ndp (by omega) (by omega) (by omega))
  have e15 : I 15 p = nI (sN A 13 p) := h.n (j := 13) (nd13 (by omega))
  have hk : ∀ y ∈ sY A, y.1 ≤ 4 := fun y hy => (hd.2.2.2.2.2.1 y hy).1
  unfold wp_X9_part
  refine c_hasPart (h.pr) hs.1.1 (fun _ => ⟨fun _ => ?_, fun z => absurd z (by decide)⟩) (fun z => absurd ⟨p, hp, rfl⟩ z)
  unfold partV at hQ
  have o0 : ∀ v, (v = 0 → Q (nI (sN A 2 p))) → (v = 1 → Q (nI (sN A 3 p))) → (v ≠ 0 → v ≠ 1 → Q (nI (sN A 4 p))) → jn_X9_part_68 I (nI p) v Q := by
    intro v h0 h1 h2
    unfold jn_X9_part_68 wp_X1_ofPart
    rw [ix_nI (by omega)]
    refine ⟨fun a => ⟨fun b => ⟨vp, ?_⟩, fun b => ⟨vp, ?_⟩⟩, fun a => ⟨vp, ?_⟩⟩
    · show Q (I 6 p); rw [e6]; exact h2 a b
    · show Q (I 5 p); rw [e5]; exact h1 b
    · show Q (I 4 p); rw [e4]; exact h0 a
  rw [ix_nI (by omega), e7, e15]
  refine ⟨fun z => o0 v (fun _ => ?_) (fun w => ?_) (fun w _ => absurd z w), fun z0 => ⟨fun z => o0 v (fun w => absurd w z0) (fun _ => ?_) (fun _ w => absurd z w), fun z1 => ⟨fun z => o0 v (fun w => absurd w z0) (fun w => absurd w z1) (fun _ _ => ?_), fun z2 => ?_⟩⟩⟩
  · rw [if_pos z] at hQ; exact hQ
  · rw [z] at w; exact absurd w (by decide)
  · rw [if_neg z0, if_pos z] at hQ; exact hQ
  · rw [if_neg z0, if_neg z1, if_pos z] at hQ; exact hQ
  · rw [if_neg z0, if_neg z1, if_neg z2] at hQ
    refine wi hQ (fun g => ⟨vp, g⟩) (fun hQ => wi hQ (fun g => ⟨vp, g⟩) (fun hQ => wi hQ (fun hQ => ?_) (fun hQ => wi hQ (fun hQ => ?_) (fun hQ => wi hQ (fun hQ => ?_) (fun hQ => wi hQ (fun hQ => ?_) id)))))
    · exact r_countM (e := encC) (fun c => c.1 % 4 == p) h.C (fun x hx => by rw [show (encC x) = enc x.2 0 0 x.1 from rfl, m3 (okC hw hx) (by omega)]; simp) hQ
    · exact r_countM (e := encQ) (fun q => q == p) h.Q (fun x hx => by
        have := hd.2.2.2.2.2.2.1 x hx
        rw [show (encQ x) = enc 0 0 0 x from rfl, m3 (okQ hw hx) (by omega), Nat.mod_eq_of_lt (by omega)]; simp) hQ
    · exact c_waysOf (fun y => y.1 == 2 && y.2.2.1 % 4 == p) h hw (fun y hy => by rw [(usr_1 y.1 (hk y hy)).1, show (encY y) = enc y.2.2.2 y.2.1 y.1 y.2.2.1 from rfl, m3 (okY hw hy) (by omega)]; simp) hQ
    · exact c_waysOf (fun y => y.1 == 1 && y.2.2.1 % 4 == p) h hw (fun y hy => by rw [(usr_1 y.1 (hk y hy)).2.1, show (encY y) = enc y.2.2.2 y.2.1 y.1 y.2.2.1 from rfl, m3 (okY hw hy) (by omega)]; simp) hQ
theorem c_base {b : Nat} {v : Int32} {Q : Int32 → Prop} (h : CR 2 I L A) (hs : SetOk A) (hd : DynOk A) (hw : Wf A) (hb : b < sN A 1 1) (hQ : Q (baseV A b v)) : wp_X9_base I L (nI b) v Q := by
  have h3 := hs.1.2.1
  have vp : vp_in (nI b) 4 := vp_in_nI (by omega) (by omega)
  have e8 : I 8 b = nI (sN A 6 b) := h.n (j := 6) (ndp (by omega) (by omega) (by omega))
  have hk : ∀ y ∈ sY A, y.1 ≤ 4 := fun y hy => (hd.2.2.2.2.2.1 y hy).1
  unfold wp_X9_base
  refine c_hasBase (h.pr) hs.1.2.1 (fun _ => ⟨fun _ => ?_, fun z => absurd z (by decide)⟩) (fun z => absurd ⟨b, hb, rfl⟩ z)
  rw [show (0 : Int32) = nI 0 from rfl]
  refine s_placeOf ?_
  rw [nI_0, Nat.add_zero, ix_nI (by omega), e8]
  unfold baseV at hQ
  refine wi hQ (fun g => ⟨vp, g⟩) (fun hQ => wi hQ (fun hQ => ?_) (fun hQ => wi hQ (fun hQ => ?_) (fun hQ => wi hQ (fun hQ => ?_) (fun hQ => wi hQ (fun hQ => c_inHand h hs hb hQ) id))))
  · exact r_countM (e := encW) (fun c => c.1 / 4 == b) h.W (fun x hx => by
      rw [show (encW x) = enc x.2.1 0 x.2.2 x.1 from rfl, m12 (okW hw hx) (by omega)]
      simp
      omega) hQ
  · exact r_countM (e := encC) (fun c => c.1 / 4 == b) h.C (fun x hx => by
      rw [show (encC x) = enc x.2 0 0 x.1 from rfl, m12 (okC hw hx) (by omega)]
      simp
      omega) hQ
  · exact c_waysOf (fun y => (y.1 == 3 || y.1 == 4) && y.2.2.1 / 4 == b) h hw (fun y hy => by
      rw [(usr_1 y.1 (hk y hy)).2.2.1, show (encY y) = enc y.2.2.2 y.2.1 y.1 y.2.2.1 from rfl, m12 (okY hw hy) (by omega)]
      simp
      omega) hQ
theorem c_cell {b p : Nat} {v : Int32} {Q : Int32 → Prop} (h : CR 2 I L A) (hs : SetOk A) (hd : DynOk A) (hw : Wf A) (hb : b < sN A 1 1) (hp : p < sN A 1 0) (hQ : Q (cellV A (4 * b + p) v)) : wp_X9_cell I L (nI b) (nI p) v Q := by
  have h3 := hs.1.2.1
  have h4 := hs.1.1
  have h16 : 4 * b + p < 16 := by omega
  have vp : vp_in (nI (4 * b + p)) 16 := vp_in_nI (by omega) (by omega)
  have e9 : I 9 (4 * b + p) = nI (sN A 7 (4 * b + p)) := h.n (j := 7) (nd7 h16)
  have e10 : I 10 (4 * b + p) = nI (sN A 8 (4 * b + p)) := h.n (j := 8) (nd8 h16)
  have e11 : I 11 (4 * b + p) = nI (sN A 9 (4 * b + p)) := h.n (j := 9) (nd9 h16)
  have e12 : I 12 (4 * b + p) = nI (sN A 10 (4 * b + p)) := h.n (j := 10) (nd10 h16)
  have e13 : I 13 (4 * b + p) = nI (sN A 11 (4 * b + p)) := h.n (j := 11) (nd11 h16)
  have e14 : I 14 (4 * b + p) = sT A 12 (4 * b + p) := h.2.1 _ h16
  have hk : ∀ y ∈ sY A, y.1 ≤ 4 := fun y hy => (hd.2.2.2.2.2.1 y hy).1
  unfold wp_X9_cell
  refine c_hasCell (h.pr) hs (fun b' p' hb' hp' eb ep => ⟨fun _ => s_placeOf ?_, fun z => absurd z (by decide)⟩) (fun z => absurd ⟨⟨b, hb, rfl⟩, ⟨p, hp, rfl⟩⟩ z)
  rw [ix_nI (by omega), e9, e10, e11, e12, e13, e14]
  unfold cellV at hQ
  refine wi hQ (fun g => ⟨vp, g⟩) (fun hQ => wi hQ (fun g => ⟨vp, g⟩) (fun hQ => wi hQ (fun g => ⟨vp, g⟩) (fun hQ => wi hQ (fun g => ⟨vp, g⟩) (fun hQ => wi hQ (fun g => ⟨vp, g⟩) (fun hQ => wi hQ (fun hQ => ?_) (fun hQ => wi hQ (fun hQ => ?_) (fun hQ => wi hQ (fun hQ => ?_) (fun hQ => wi hQ (fun g => ⟨vp, g⟩) id))))))))
  · exact r_countM (e := encC) (fun x => x.1 == 4 * b + p) h.C (fun x hx => by
      rw [show (encC x) = enc x.2 0 0 x.1 from rfl, m15 (okC hw hx) (by omega)]
      simp) hQ
  · exact c_waysOf (fun y => (y.1 == 3 || y.1 == 4) && y.2.2.1 == 4 * b + p) h hw (fun y hy => by
      rw [(usr_1 y.1 (hk y hy)).2.2.1, show (encY y) = enc y.2.2.2 y.2.1 y.1 y.2.2.1 from rfl, m15 (okY hw hy) (by omega)]
      simp) hQ
  · exact c_waysOf (fun y => y.1 == 0 && y.2.2.1 == 4 * b + p) h hw (fun y hy => by
      rw [(usr_1 y.1 (hk y hy)).2.2.2, show (encY y) = enc y.2.2.2 y.2.1 y.1 y.2.2.1 from rfl, m15 (okY hw hy) (by omega)]
      simp) hQ
theorem c_want {v1 v2 : Int32} {Q : Int32 → Prop} (h : CR 2 I L A) (hw : Wf A) (h1 : ∀ (k : Nat) (w : Nat × Nat × Nat), v1 = nI k → (sW A)[k]? = some w → Q (if v2 = 0 then nI (w.1 / 4) else if v2 = 1 then nI (w.1 % 4) else if v2 = 2 then nI w.2.1 else if v2 = 3 then nI w.2.2 else -1)) (h0 : ¬ isIx v1 (sW A).length → Q (-1)) : wp_X9_want I L v1 v2 Q := by
  unfold wp_X9_want
  refine r_has h.W (fun i hi e => ⟨fun _ => ?_, fun z => absurd z (by decide)⟩) (fun z => ⟨fun w => absurd rfl w, fun _ => h0 (fun ⟨k, hk, ek⟩ => z k (by rw [List.length_map]; exact hk) ek)⟩)
  rw [List.length_map] at hi
  have hg : (sW A)[i]? = some (sW A)[i] := List.getElem?_eq_getElem hi
  have hm := List.getElem_mem hi
  have hQ := h1 i _ e hg
  have ho := okW hw hm
  have hc := ho.2.2.2
  rw [e]
  refine r_at h.W (x := encW (sW A)[i]) (by rw [List.getElem?_map, hg]; rfl) ?_
  rw [show encW (sW A)[i] = enc (sW A)[i].2.1 0 (sW A)[i].2.2 (sW A)[i].1 from rfl]
  exact wi hQ (fun g => s_place ho (s_base (by omega) g)) (fun hQ => wi hQ (fun g => s_place ho (s_part g)) (fun hQ => wi hQ (fun g => s_day ho g) (fun hQ => wi hQ (fun g => s_mark ho g) id)))
theorem c_waits {v1 : Int32} {Q : Int32 → Prop} (h : CR 2 I L A) (hs : SetOk A) (hd : DynOk A) (hw : Wf A) (h1 : ∀ (k : Nat) (p : Nat), v1 = nI k → (sQ A)[k]? = some p → Q (nI p)) (h0 : ¬ isIx v1 (sQ A).length → Q (-1)) : wp_X9_waits I L v1 Q := by
  unfold wp_X9_waits
  refine r_has h.Q (fun i hi e => ⟨fun z => absurd z (by decide), fun _ => ?_⟩) (fun z => ⟨fun _ => h0 (fun ⟨k, hk, ek⟩ => z k (by rw [List.length_map]; exact hk) ek), fun w => absurd rfl w⟩)
  rw [List.length_map] at hi
  have hg : (sQ A)[i]? = some (sQ A)[i] := List.getElem?_eq_getElem hi
  have hm := List.getElem_mem hi
  have hQ := h1 i _ e hg
  have ho := okQ hw hm
  have hq := hd.2.2.2.2.2.2.1 _ hm
  have h3 := hs.1.1
  rw [e]
  refine r_at h.Q (x := encQ (sQ A)[i]) (by rw [List.getElem?_map, hg]; rfl) ?_
  rw [show encQ (sQ A)[i] = enc 0 0 0 (sQ A)[i] from rfl]
  refine s_place ho (s_part ?_)
  rw [Nat.mod_eq_of_lt (by omega)]
  exact hQ
theorem c_way {v1 v2 : Int32} {Q : Int32 → Prop} (h : CR 2 I L A) (hw : Wf A) (hk : ∀ y ∈ sY A, y.1 ≤ 4) (h1 : ∀ (k : Nat) (y : Nat × Nat × Nat × Nat), v1 = nI k → (sY A)[k]? = some y → Q (if v2 = 0 then nI y.1 else if v2 = 1 then nI y.2.1 else if v2 = 2 then nI (y.2.2.1 % 4) else if v2 = 3 then (if y.1 = 2 then -2 else nI (y.2.2.1 / 4)) else if v2 = 4 then nI y.2.2.2 else -1)) (h0 : ¬ isIx v1 (sY A).length → Q (-1)) : wp_X9_way I L v1 v2 Q := by
  unfold wp_X9_way
  refine r_has h.Y (fun i hi e => ⟨fun _ => ?_, fun z => absurd z (by decide)⟩) (fun z => ⟨fun w => absurd rfl w, fun _ => h0 (fun ⟨k, hk, ek⟩ => z k (by rw [List.length_map]; exact hk) ek)⟩)
  rw [List.length_map] at hi
  have hg : (sY A)[i]? = some (sY A)[i] := List.getElem?_eq_getElem hi
  have hm := List.getElem_mem hi
  have hQ := h1 i _ e hg
  have ho := okY hw hm
  have hc := ho.2.2.2
  have hk4 := hk _ hm
  rw [e]
  refine r_at h.Y (x := encY (sY A)[i]) (by rw [List.getElem?_map, hg]; rfl) ?_
  rw [show encY (sY A)[i] = enc (sY A)[i].2.2.2 (sY A)[i].2.1 (sY A)[i].1 (sY A)[i].2.2.1 from rfl]
  refine wi hQ (fun g => s_mark ho g) (fun hQ => wi hQ (fun g => s_num ho g) (fun hQ => wi hQ (fun g => s_place ho (s_part g)) (fun hQ => wi hQ (fun g => s_mark ho ?_) (fun hQ => wi hQ (fun g => s_day ho g) id))))
  refine (pk_eq (sY A)[i].1 2 (fun z => ?_) (fun z => s_place ho (s_base (by omega) ?_))).symm
  · rw [if_pos z] at g; exact g
  · rw [if_neg z] at g; exact g
theorem r_findNeg {r N : Nat} {xs : List Int64} {x1 x2 x3 : Int32} {Q : Int32 → Prop} (h : rowIs I L r N xs) (hk : x3 < 0) (hQ : Q (-1)) : wp_X4_findAt r N I L x1 x2 x3 Q := by
  have hsz := h.sz
  have hN := h.2.1
  have hzN := h.2.2.1
  have key : ∀ (n i q : Nat), i + n = xs.length → q ≤ i → lp_X4_findAt_6 r N I L x1 x2 x3 Q (n + 1) (nI q) (nI i) := by
    intro n
    induction n with
    | zero =>
      intro i q hi hq
      unfold lp_X4_findAt_6
      rw [h.1]
      exact ⟨fun _ => hQ, fun z => absurd (nI_le (by omega) (by omega)) z⟩
    | succ n ih =>
      intro i q hi hq
      unfold lp_X4_findAt_6 jn_X4_findAt_43
      rw [h.1, nI_1, nI_1]
      refine ⟨fun z => absurd z (nI_ge (by omega) (by omega)), fun _ => ⟨vp_in_nI (by omega) hzN, fun _ => ih (i + 1) q (by omega) (by omega), fun _ => ⟨fun _ => ih (i + 1) (q + 1) (by omega) (by omega), fun z => ?_⟩⟩⟩
      rw [← z] at hk
      exact absurd hk (nI_pos (by omega))
  unfold wp_X4_findAt
  refine ⟨xs.length + 1, ?_⟩
  rw [← nI_0]
  exact key xs.length 0 0 (by omega) (Nat.le_refl _)
/-- the k-th call of a part -/
theorem fidx_some {α : Type} {P : α → Bool} : ∀ (xs : List α) (i k j : Nat), fidx P xs i k = some j → ∃ (q : Nat) (x : α), j = i + q ∧ xs[q]? = some x ∧ P x = true
  | [], i, k, j, h => by cases h
  | x :: xs, i, k, j, h => by
    rw [fidx_cons] at h
    cases hp : P x with
    | false =>
      simp only [hp, Bool.false_eq_true, if_false] at h
      obtain ⟨q, y, a, b, c⟩ := fidx_some xs (i + 1) k j h
      exact ⟨q + 1, y, by omega, by simpa using b, c⟩
    | true =>
      simp only [hp, if_true] at h
      cases k with
      | zero =>
        simp only at h
        cases h
        exact ⟨0, x, rfl, rfl, hp⟩
      | succ k =>
        simp only at h
        obtain ⟨q, y, a, b, c⟩ := fidx_some xs (i + 1) k j h
        exact ⟨q + 1, y, by omega, by simpa using b, c⟩
def klV (A : St) (p : Nat) (v2 v3 : Int32) (Q : Int32 → Prop) : Prop := (∀ (k j : Nat) (c : Nat × Nat), k < 2 ^ 31 → v2 = nI k → fidx (isC p) (sC A) 0 k = some j → (sC A)[j]? = some c → Q (if v3 = 0 then nI (c.1 / 4) else if v3 = 1 then nI c.2 else -1)) ∧ ((v2 < 0 ∨ ∃ k : Nat, k < 2 ^ 31 ∧ v2 = nI k ∧ fidx (isC p) (sC A) 0 k = none) → Q (-1))
theorem c_call {p : Nat} {v2 v3 : Int32} {Q : Int32 → Prop} (h : CR 2 I L A) (hs : SetOk A) (hw : Wf A) (hp : p < sN A 1 0) (hQ : klV A p v2 v3 Q) : wp_X9_call I L (nI p) v2 v3 Q := by
  have h3 := hs.1.1
  have hsz := h.C.sz
  rw [List.length_map] at hsz
  unfold wp_X9_call
  refine c_hasPart (h.pr) hs.1.1 (fun _ => ⟨fun _ => ?_, fun z => absurd z (by decide)⟩) (fun z => absurd ⟨p, hp, rfl⟩ z)
  by_cases hn : v2 < 0
  · exact r_findNeg h.C hn ⟨fun z => absurd rfl z, fun _ => hQ.2 (Or.inl hn)⟩
  · obtain ⟨k, hk, rfl⟩ := nI_of hn
    have hx : ∀ x ∈ (sC A).map encC, (lg_cmp (x &&& (3 : Int32).toInt64) (nI p).toInt64 = 0) ↔ decide (lg_cmp (x &&& (3 : Int32).toInt64) (nI p).toInt64 = 0) = true := fun x _ => by simp
    have hf : ∀ q, fidx (fun x => decide (lg_cmp (x &&& (3 : Int32).toInt64) (nI p).toInt64 = 0)) ((sC A).map encC) 0 q = fidx (isC p) (sC A) 0 q := fun q => by
      rw [fidx_map]
      refine fidx_congr _ _ _ (fun c hc => ?_)
      unfold isC
      rw [Bool.eq_iff_iff]
      simp only [decide_eq_true_eq, beq_iff_eq]
      exact m3 (okC hw hc) (by omega)
    refine r_findAt (k := k) _ hk hx h.C (fun j hj => ?_) (fun hj => ⟨fun z => absurd rfl z, fun _ => hQ.2 (Or.inr ⟨k, hk, rfl, (hf k) ▸ hj⟩)⟩)
    rw [hf k] at hj
    obtain ⟨q, c, e1, e2, e3⟩ := fidx_some _ _ _ _ hj
    have e1 : j = q := by omega
    subst e1
    have hjl := lt_of_get e2
    have ho := okC hw (List.mem_of_getElem? e2)
    have hc16 := ho.2.2.2
    refine ⟨fun _ => ?_, fun z => absurd z (nI_nm (by omega))⟩
    refine r_at h.C (x := encC c) (by rw [List.getElem?_map, e2]; rfl) ?_
    rw [show encC c = enc c.2 0 0 c.1 from rfl]
    exact wi (hQ.1 k j c hk rfl hj e2) (fun g => s_place ho (s_base (by omega) g)) (fun hQ => wi hQ (fun g => s_day ho g) id)
theorem c_sum {a N : Nat} {f : Nat → Nat} {Q : Int32 → Prop} (hN : N < 2 ^ 31) (h : ∀ i, i < N → I a i = nI (f i)) (hQ : Q (nI (tot f N))) : wp_X9_sum a N I Q := by
  have key : ∀ (n i : Nat), i + n = N → lp_X9_sum_4 a N I Q (n + 1) (nI (tot f i)) (nI i) := by
    intro n
    induction n with
    | zero =>
      intro i hi
      have hi : i = N := by omega
      subst hi
      unfold lp_X9_sum_4
      exact ⟨fun _ => hQ, fun z => absurd (nI_le (Nat.le_refl _) hN) z⟩
    | succ n ih =>
      intro i hi
      unfold lp_X9_sum_4
      rw [ix_nI (by omega), h i (by omega), nI_add, nI_1]
      exact ⟨fun z => absurd z (nI_ge (by omega) hN), fun _ => ⟨vp_in_nI (by omega) hN, ih (i + 1) (by omega)⟩⟩
  unfold wp_X9_sum
  refine ⟨N + 1, ?_⟩
  rw [← nI_0]
  exact key N 0 (by omega)
def countV (A : St) (u t v : Int32) : Int32 := if v = 0 then nI (sN A 1 0) else if v = 1 then nI (sN A 1 1) else if v = 2 then nI (sN A 1 2) else if v = 3 then nI (sN A 1 3) else if v = 4 then nI (sN A 1 4) else if v = 5 then u else if v = 6 then t else if v = 7 then nI (tot (sN A 7) 16) else if v = 8 then nI (tot (sN A 9) 16) else if v = 9 then nI (sN A 0 10) else -1
theorem c_count {u t v : Int32} {Q : Int32 → Prop} (h : CR 2 I L A) (hu : I 46 2 = u) (ht : I 0 1 = t) (hQ : Q (countV A u t v)) : wp_X9_count I v Q := by
  have e0 : I 3 0 = nI (sN A 1 0) := h.n (j := 1) (nd1 (by omega))
  have e1 : I 3 1 = nI (sN A 1 1) := h.n (j := 1) (nd1 (by omega))
  have e2 : I 3 2 = nI (sN A 1 2) := h.n (j := 1) (nd1 (by omega))
  have e3 : I 3 3 = nI (sN A 1 3) := h.n (j := 1) (nd1 (by omega))
  have e4 : I 3 4 = nI (sN A 1 4) := h.n (j := 1) (nd1 (by omega))
  have e10 : I 2 10 = nI (sN A 0 10) := h.n (j := 0) (nd0 (by omega) (by omega))
  unfold wp_X9_count
  rw [e0, e1, e2, e3, e4, e10, hu, ht]
  unfold countV at hQ
  exact wi hQ id (fun hQ => wi hQ id (fun hQ => wi hQ id (fun hQ => wi hQ id (fun hQ => wi hQ id (fun hQ => wi hQ id (fun hQ => wi hQ id (fun hQ => wi hQ (fun hQ => c_sum (by omega) (fun i hi => h.n (j := 7) (nd7 hi)) hQ) (fun hQ => wi hQ (fun hQ => c_sum (by omega) (fun i hi => h.n (j := 9) (nd9 hi)) hQ) (fun hQ => wi hQ id id)))))))))
end ASK
