theorem wi {c : Prop} [Decidable c] {α : Type} {a b : α} {Q : α → Prop} {X Y : Prop} (h : Q (if c then a else b)) (hA : Q a → X) (hB : Q b → Y) : (c → X) ∧ (¬ c → Y) := by
  by_cases hc : c
  · rw [if_pos hc] at h
    exact ⟨fun _ => hA h, fun z => absurd hc z⟩
  · rw [if_neg hc] at h
    exact ⟨fun z => absurd z hc, fun _ => hB h⟩
theorem wi' {c : Prop} [Decidable c] {α : Type} {a b : α} {Q : α → Prop} {X Y : Prop} (h : Q (if c then a else b)) (hA : Q a → X) (hB : Q b → Y) : (¬ c → Y) ∧ (c → X) := (wi h hA hB).symm
def lateF (d : Int32) : List (Nat × Nat × Nat) → Int32 → Int32
  | [], v => v
  | w :: ws, v => lateF d ws (v + (d - nI w.2.1))
def mostF (d : Int32) : List (Nat × Nat × Nat) → Int32 → Int32
  | [], v => v
  | w :: ws, v => mostF d ws (if d - nI w.2.1 ≤ v then v else d - nI w.2.1)
def lateV (A : St) : Int32 := lateF (nI (sN A 0 9)) (sW A) (sT A 0 15)
def mostV (A : St) : Int32 := mostF (nI (sN A 0 9)) (sW A) (sT A 0 16)
theorem mostF_same {d : Int32} : ∀ (ws : List (Nat × Nat × Nat)) (v : Int32), (∀ w ∈ ws, d - nI w.2.1 ≤ v) → mostF d ws v = v
  | [], v, _ => rfl
  | w :: ws, v, h => by
    unfold mostF
    rw [if_pos (h w List.mem_cons_self)]
    exact mostF_same ws v (fun x hx => h x (List.mem_cons_of_mem _ hx))
def tellV (A : St) (v : Int32) : Int32 := if v = 0 then nI (sN A 0 9) else if v = 1 then sT A 0 12 else if v = 2 then sT A 0 13 else if v = 3 then nI (sW A).length else if v = 4 then sT A 0 14 else if v = 5 then lateV A else if v = 6 then mostV A else if v = 7 then sT A 0 17 else if v = 8 then sT A 0 18 else if v = 9 then nI (sY A).length else if v = 10 then nI (sQ A).length else -1
section TELL
variable {o : Nat} {I : MI} {L : ML} {A : St}
theorem c_late {Q : Int32 → Prop} (h : CR o I L A) (hw : Wf A) (hQ : Q (lateV A)) : wp_X2_late o I L Q := by
  have e9 : I o 9 = nI (sN A 0 9) := h.n (nd0 (by omega) (by omega))
  have eW := h.W.1
  have hsz := h.W.sz
  rw [List.length_map] at eW hsz
  have key : ∀ (n i : Nat) (v : Int32), i + n = (sW A).length → Q (lateF (nI (sN A 0 9)) ((sW A).drop i) v) → lp_X2_late_7 o I L Q (n + 1) v (nI i) := by
    intro n
    induction n with
    | zero =>
      intro i v hi hq
      unfold lp_X2_late_7
      rw [eW]
      refine ⟨fun _ => ?_, fun z => absurd (nI_le (by omega) (by omega)) z⟩
      rw [List.drop_of_length_le (by omega)] at hq
      exact hq
    | succ n ih =>
      intro i v hi hq
      have hil : i < (sW A).length := by omega
      unfold lp_X2_late_7
      rw [eW]
      refine ⟨fun z => absurd z (nI_ge (by omega) (by omega)), fun _ => ?_⟩
      have hat : ((sW A).map encW)[i]? = some (encW (sW A)[i]) := by rw [List.getElem?_map, List.getElem?_eq_getElem hil]; rfl
      refine r_at h.W hat (s_day (okW hw (List.getElem_mem hil)) ?_)
      rw [e9, nI_1]
      rw [List.drop_eq_getElem_cons hil] at hq
      exact ih (i + 1) _ (by omega) hq
  unfold wp_X2_late
  refine ⟨(sW A).length + 1, ?_⟩
  rw [h.t0 (i := 15) (by omega) (by omega), ← nI_0]
  exact key (sW A).length 0 _ (by omega) hQ
theorem c_longest {Q : Int32 → Prop} (h : CR o I L A) (hw : Wf A) (hd : DynOk A) (hQ : Q (mostV A)) : wp_X2_longestWait o I L Q := by
  have e9 : I o 9 = nI (sN A 0 9) := h.n (nd0 (by omega) (by omega))
  have eW := h.W.1
  have hsz := h.W.sz
  rw [List.length_map] at eW hsz
  have h4 := hd.2.2.2.1
  have h14 := hd.2.2.2.2.2.2.2.2.2.2.2.2.2
  have h9 := hd.2.2.2.2.2.2.2.2.2.2.2.2.1
  unfold wp_X2_longestWait
  unfold mostV at hQ
  rw [eW, e9, h.t0 (i := 16) (by omega) (by omega)]
  cases hws : sW A with
  | nil =>
    rw [hws] at hQ
    exact ⟨fun z => absurd rfl z, fun _ => hQ⟩
  | cons w ws =>
    have hmem : w ∈ sW A := by rw [hws]; exact List.mem_cons_self
    have hat : ((sW A).map encW)[0]? = some (encW w) := by rw [hws]; rfl
    refine ⟨fun _ => ?_, fun z => absurd z (nI_ne0 (by simp) (by rw [← hws]; exact hsz))⟩
    rw [← nI_0]
    refine r_at h.W hat (s_day (okW hw hmem) ?_)
    rw [hws] at hQ h14 h4
    unfold mostF at hQ
    have hle : ∀ x ∈ ws, nI (sN A 0 9) - nI x.2.1 ≤ nI (sN A 0 9) - nI w.2.1 := by
      intro x hx
      have h1 := (List.pairwise_cons.mp h14).1 x hx
      have h2 := (h4 x (List.mem_cons_of_mem _ hx)).2.1
      have h3 := (h4 w List.mem_cons_self).2.1
      rw [pk_sub h2, pk_sub h3]
      exact nI_le (by omega) (by omega)
    by_cases hc : sT A 0 16 < nI (sN A 0 9) - nI w.2.1
    · rw [if_pos hc]
      rw [if_neg (Int32.not_le.mpr hc), mostF_same _ _ hle] at hQ
      exact hQ
    · rw [if_neg hc]
      have hc' := Int32.not_lt.mp hc
      rw [if_pos hc', mostF_same _ _ (fun x hx => Int32.le_trans (hle x hx) hc')] at hQ
      exact hQ
theorem c_tell {v : Int32} {Q : Int32 → Prop} (h : CR o I L A) (hw : Wf A) (hd : DynOk A) (hQ : Q (tellV A v)) : wp_X2_tell o I L v Q := by
  have e9 : I o 9 = nI (sN A 0 9) := h.n (nd0 (by omega) (by omega))
  have eW := h.W.1
  have eY := h.Y.1
  have eQ := h.Q.1
  rw [List.length_map] at eW eY eQ
  unfold wp_X2_tell
  rw [e9, eW, eY, eQ, h.t0 (i := 12) (by omega) (by omega), h.t0 (i := 13) (by omega) (by omega), h.t0 (i := 14) (by omega) (by omega), h.t0 (i := 17) (by omega) (by omega), h.t0 (i := 18) (by omega) (by omega)]
  unfold tellV at hQ
  exact wi hQ id (fun hQ => wi hQ id (fun hQ => wi hQ id (fun hQ => wi hQ id (fun hQ => wi hQ id (fun hQ => wi hQ (fun hQ => c_late h hw hQ) (fun hQ => wi hQ (fun hQ => c_longest h hw hd hQ) (fun hQ => wi hQ id (fun hQ => wi hQ id (fun hQ => wi hQ id (fun hQ => wi hQ id id))))))))))
theorem c_waysOf {v1 v2 v3 : Int32} {Q : Int32 → Prop} (P : Nat × Nat × Nat × Nat → Bool) (h : CR o I L A) (hw : Wf A) (hP : ∀ y ∈ sY A, P y = true ↔ ((usr v1 (nI y.1) &&& 1) = 1 ∧ lg_cmp (encY y &&& v2.toInt64) v3.toInt64 = 0)) (hQ : Q (nI ((sY A).countP P))) : wp_X2_waysOf o I L v1 v2 v3 Q := by
  have eY := h.Y.1
  have hsz := h.Y.sz
  rw [List.length_map] at eY hsz
  have key : ∀ (n i m : Nat), i + n = (sY A).length → Q (nI (m + ((sY A).drop i).countP P)) → lp_X2_waysOf_6 o I L v1 v2 v3 Q (n + 1) (nI m) (nI i) := by
    intro n
    induction n with
    | zero =>
      intro i m hi hq
      unfold lp_X2_waysOf_6
      rw [eY]
      refine ⟨fun _ => ?_, fun z => absurd (nI_le (by omega) (by omega)) z⟩
      rw [List.drop_of_length_le (by omega)] at hq
      exact hq
    | succ n ih =>
      intro i m hi hq
      have hil : i < (sY A).length := by omega
      have hmem := List.getElem_mem hil
      unfold lp_X2_waysOf_6
      rw [eY]
      refine ⟨fun z => absurd z (nI_ge (by omega) (by omega)), fun _ => ?_⟩
      have hat : ((sY A).map encY)[i]? = some (encY (sY A)[i]) := by rw [List.getElem?_map, List.getElem?_eq_getElem hil]; rfl
      rw [List.drop_eq_getElem_cons hil, List.countP_cons] at hq
      have hp := hP _ hmem
      have no : ¬ ((usr v1 (nI (sY A)[i].1) &&& 1) = 1 ∧ lg_cmp (encY (sY A)[i] &&& v2.toInt64) v3.toInt64 = 0) → jn_X2_waysOf_56 (nI m) (nI i) (fun x5 x6 => (lp_X2_waysOf_6 o I L v1 v2 v3 Q (n + 1) x5 x6)) := by
        intro z
        have : P (sY A)[i] = false := by
          rcases Bool.eq_false_or_eq_true (P (sY A)[i]) with q | q
          · exact absurd (hp.mp q) z
          · exact q
        rw [this] at hq
        unfold jn_X2_waysOf_56
        rw [nI_1]
        exact ih (i + 1) m (by omega) (by simpa using hq)
      refine r_at h.Y hat (s_mark (okY hw hmem) ⟨fun z => no (fun q => z q.1), fun z => ⟨fun w => no (fun q => w q.2), fun w => ?_⟩⟩)
      rw [hp.mpr ⟨z, w⟩] at hq
      unfold jn_X2_waysOf_56
      rw [nI_1, nI_1]
      refine ih (i + 1) (m + 1) (by omega) ?_
      rw [show m + 1 + ((sY A).drop (i + 1)).countP P = m + (((sY A).drop (i + 1)).countP P + 1) by omega]
      simpa using hq
  unfold wp_X2_waysOf
  refine ⟨(sY A).length + 1, ?_⟩
  rw [← nI_0]
  exact key (sY A).length 0 0 (by omega) (by simpa using hQ)
theorem c_inHand {b : Nat} {Q : Int32 → Prop} (h : CR o I L A) (hs : SetOk A) (hb : b < sN A 1 1) (hQ : Q (nI (tot (fun p => sN A 10 (4 * b + p)) (sN A 1 0)))) : wp_X2_inHand o I (nI b) Q := by
  have h1 := hs.1.1
  have h2 := hs.1.2.1
  have e : I (o + 1) 0 = nI (sN A 1 0) := h.n (nd1 (by omega))
  have key : ∀ (n p : Nat), p + n = sN A 1 0 → lp_X2_inHand_4 o I (nI b) Q (n + 1) (nI (tot (fun p => sN A 10 (4 * b + p)) p)) (nI p) := by
    intro n
    induction n with
    | zero =>
      intro p hp
      unfold lp_X2_inHand_4
      rw [e]
      have : p = sN A 1 0 := by omega
      rw [this]
      exact ⟨fun _ => hQ, fun z => absurd (nI_le (Nat.le_refl _) (by omega)) z⟩
    | succ n ih =>
      intro p hp
      unfold lp_X2_inHand_4
      rw [e]
      refine ⟨fun z => absurd z (nI_ge (by omega) (by omega)), fun _ => s_placeOf ?_⟩
      have h16 : 4 * b + p < 16 := by omega
      have e10 : I (o + 10) (4 * b + p) = nI (sN A 10 (4 * b + p)) := h.n (nd10 h16)
      rw [nI_m15, Nat.mod_eq_of_lt h16, ix_nI (by omega), e10, nI_add, nI_1]
      exact ⟨vp_in_nI h16 (by omega), ih (p + 1) (by omega)⟩
  unfold wp_X2_inHand
  refine ⟨sN A 1 0 + 1, ?_⟩
  rw [← nI_0]
  exact key (sN A 1 0) 0 (by omega)
/-- days that may go by -/
def dayOk (A : St) (v m : Int32) : Prop := ¬ v < 1 ∧ ¬ m < v ∧ ¬ 9999 < nI (sN A 0 9) + v
theorem dayOk.nat {v : Int32} {m : Nat} (hm : m ≤ 30) (h : dayOk A v (nI m)) (h9 : sN A 0 9 ≤ 9999) : ∃ n, v = nI n ∧ 1 ≤ n ∧ n ≤ m ∧ sN A 0 9 + n ≤ 9999 := by
  obtain ⟨h1, h2, h3⟩ := h
  have h0 : ¬ v < 0 := fun z => h1 (Int32.lt_trans z (by decide))
  obtain ⟨n, hn, rfl⟩ := nI_of h0
  have a1 : 1 ≤ n := by
    rcases Nat.lt_or_ge n 1 with q | q
    · exact absurd (nI_lt (b := 1) q (by omega)) h1
    · exact q
  have a2 : n ≤ m := by
    rcases Nat.lt_or_ge m n with q | q
    · exact absurd (nI_lt q hn) h2
    · exact q
  refine ⟨n, rfl, a1, a2, ?_⟩
  rw [nI_add] at h3
  rcases Nat.lt_or_ge 9999 (sN A 0 9 + n) with q | q
  · exact absurd (nI_lt (a := 9999) q (by omega)) h3
  · exact q
theorem c_canGoBy {v m : Int32} {Q : Int32 → Prop} (h : CR o I L A) (h1 : dayOk A v m → Q 1) (h0 : ¬ dayOk A v m → Q 0) : wp_X2_canGoBy o I v m Q := by
  have e9 : I o 9 = nI (sN A 0 9) := h.n (nd0 (by omega) (by omega))
  unfold wp_X2_canGoBy
  rw [e9]
  exact ⟨fun z => h0 (fun q => q.1 z), fun a => ⟨fun z => h0 (fun q => q.2.1 z), fun b => ⟨fun z => h0 (fun q => q.2.2 z), fun c => h1 ⟨a, b, c⟩⟩⟩⟩
end TELL
/-- an int that names one of the first k -/
def isIx (v : Int32) (k : Nat) : Prop := ∃ p, p < k ∧ v = nI p
theorem isIx_iff {v : Int32} {k : Nat} (hk : k < 2 ^ 31) : isIx v k ↔ ¬ v < 0 ∧ ¬ nI k ≤ v := by
  constructor
  · rintro ⟨p, hp, rfl⟩
    exact ⟨nI_pos (by omega), nI_ge hp hk⟩
  · rintro ⟨h1, h2⟩
    obtain ⟨p, hp, rfl⟩ := nI_of h1
    refine ⟨p, ?_, rfl⟩
    rcases Nat.lt_or_ge p k with q | q
    · exact q
    · exact absurd (nI_le q hp) h2
section HAS
variable {o : Nat} {I : MI} {L : ML} {A : St}
theorem c_hasPart {v : Int32} {Q : Int32 → Prop} (h : PR o I A) (hs : sN A 1 0 ≤ 3) (h1 : isIx v (sN A 1 0) → Q 1) (h0 : ¬ isIx v (sN A 1 0) → Q 0) : wp_X1_hasPart o I v Q := by
  have e : I o 0 = nI (sN A 1 0) := h 0 0 (nd1 (by omega)) (by omega)
  unfold wp_X1_hasPart
  rw [e]
  rw [isIx_iff (by omega)] at h1 h0
  exact ⟨fun z => h0 (fun q => q.1 z), fun a => ⟨fun z => h0 (fun q => q.2 z), fun b => h1 ⟨a, b⟩⟩⟩
theorem c_hasBase {v : Int32} {Q : Int32 → Prop} (h : PR o I A) (hs : sN A 1 1 ≤ 3) (h1 : isIx v (sN A 1 1) → Q 1) (h0 : ¬ isIx v (sN A 1 1) → Q 0) : wp_X1_hasBase o I v Q := by
  have e : I o 1 = nI (sN A 1 1) := h 0 1 (nd1 (by omega)) (by omega)
  unfold wp_X1_hasBase
  rw [e]
  rw [isIx_iff (by omega)] at h1 h0
  exact ⟨fun z => h0 (fun q => q.1 z), fun a => ⟨fun z => h0 (fun q => q.2 z), fun b => h1 ⟨a, b⟩⟩⟩
theorem c_hasCell {v w : Int32} {Q : Int32 → Prop} (h : PR o I A) (hs : SetOk A) (h1 : ∀ b p, b < sN A 1 1 → p < sN A 1 0 → v = nI b → w = nI p → Q 1) (h0 : ¬ (isIx v (sN A 1 1) ∧ isIx w (sN A 1 0)) → Q 0) : wp_X1_hasCell o I v w Q := by
  unfold wp_X1_hasCell
  refine c_hasBase h hs.1.2.1 (fun ⟨b, hb, eb⟩ => ⟨fun z => absurd z (by decide), fun _ => c_hasPart h hs.1.1 (fun ⟨p, hp, ep⟩ => ⟨fun z => absurd z (by decide), fun _ => h1 b p hb hp eb ep⟩) (fun z => ⟨fun _ => h0 (fun q => z q.2), fun q => absurd rfl q⟩)⟩) (fun z => ⟨fun _ => h0 (fun q => z q.1), fun q => absurd rfl q⟩)
end HAS
-- the acts that are kept
def UR (I : MI) (L : ML) (U : List St) : Prop := ∃ nx, nx < 12 ∧ I 46 1 = nI nx ∧ I 46 2 = nI U.length ∧ U.length ≤ 12 ∧ ∀ (k : Nat) (A : St), U[k]? = some A → CR (48 + 22 * ((nx + 11 - k) % 12)) I L A
theorem CR.frame {o : Nat} {I I' : MI} {L L' : ML} {A : St} (h : CR o I L A) (hf : ∀ k, o ≤ k → k < o + 22 → I' k = I k ∧ L' k = L k) : CR o I' L' A := by
  refine ⟨fun j i hn => ?_, fun i hi => ?_, fun i h1 h2 => ?_, h.Y.fr ?_ ?_, h.W.fr ?_ ?_, h.C.fr ?_ ?_, h.Q.fr ?_ ?_⟩
  · have : j ≤ 13 := by unfold nd at hn; omega
    rw [(hf (o + j) (by omega) (by omega)).1]; exact h.1 j i hn
  · rw [(hf (o + 12) (by omega) (by omega)).1]; exact h.2.1 i hi
  · rw [(hf o (by omega) (by omega)).1]; exact h.2.2.1 i h1 h2
  · rw [(hf (o + 14) (by omega) (by omega)).1]
  · rw [(hf (o + 14 + 1) (by omega) (by omega)).2]
  · rw [(hf (o + 16) (by omega) (by omega)).1]
  · rw [(hf (o + 16 + 1) (by omega) (by omega)).2]
  · rw [(hf (o + 18) (by omega) (by omega)).1]
  · rw [(hf (o + 18 + 1) (by omega) (by omega)).2]
  · rw [(hf (o + 20) (by omega) (by omega)).1]
  · rw [(hf (o + 20 + 1) (by omega) (by omega)).2]
theorem UR.frame {I I' : MI} {L L' : ML} {U : List St} (h : UR I L U) (hf : ∀ k, 46 ≤ k → k < 312 → I' k = I k ∧ L' k = L k) : UR I' L' U := by
  obtain ⟨nx, h1, h2, h3, h4, h5⟩ := h
  refine ⟨nx, h1, by rw [(hf 46 (by omega) (by omega)).1]; exact h2, by rw [(hf 46 (by omega) (by omega)).1]; exact h3, h4, fun k A hk => (h5 k A hk).frame (fun a h1 h2 => hf a (by omega) (by omega))⟩
/-- a change of the ring alone -/
def FrU (I : MI) (L : ML) (I' : MI) (L' : ML) : Prop := ∀ k, (k < 46 ∨ 312 ≤ k) → I' k = I k ∧ L' k = L k
theorem c_remember {I : MI} {L : ML} {A : St} {U : List St} {Q : MI → ML → Prop} (h : CR 2 I L A) (hu : UR I L U) (hQ : ∀ I' L', UR I' L' ((A :: U).take 12) → FrU I L I' L' → Q I' L') : wp_X0_remember 2 I L Q := by
  obtain ⟨nx, h1, h2, h3, h4, h5⟩ := hu
  unfold wp_X0_remember
  rw [h2, ix_nI (by omega)]
  refine ⟨vp_in_nI h1 (by omega), c_copyFrom (by omega) h (fun I2 L2 g2 f2 => ?_)⟩
  have e461 : I2 46 1 = nI nx := by rw [(f2 46 (by omega)).1]; exact h2
  have e462 : I2 46 2 = nI U.length := by rw [(f2 46 (by omega)).1]; exact h3
  have jn : ∀ s, s < 12 → (s + 11) % 12 = nx → jn_X0_remember_41 I2 L2 (nI s) Q := by
    intro s hs hsn
    unfold jn_X0_remember_41
    intro I5 e5 I6 e6
    have e52 : I5 46 2 = nI U.length := by rw [e5, u2_n2 (by omega)]; exact e462
    rw [e52, nI_1] at e6
    have emin : (if (12 : Int32) < nI (U.length + 1) then (12 : Int32) else nI (U.length + 1)) = nI ((A :: U).take 12).length := by
      rw [List.length_take, List.length_cons]
      by_cases hq : 12 < U.length + 1
      · rw [if_pos (show (12 : Int32) < nI (U.length + 1) from nI_lt (a := 12) hq (by omega)), show min 12 (U.length + 1) = 12 by omega]; rfl
      · rw [if_neg (show ¬ (12 : Int32) < nI (U.length + 1) from nI_nlt (a := 12) (by omega) (by omega)), show min 12 (U.length + 1) = U.length + 1 by omega]
    rw [emin] at e6
    have out : ∀ k, k ≠ 46 → I6 k = I2 k := fun k hk => by rw [e6, u2_ne hk, e5, u2_ne hk]
    refine hQ I6 L2 ⟨s, hs, ?_, ?_, ?_, fun k B hk => ?_⟩ (fun k hk => ⟨by rw [out k (by omega)]; exact (f2 k (by omega)).1, (f2 k (by omega)).2⟩)
    · rw [e6, u2_n2 (by omega), e5, u2_s]
    · rw [e6, u2_s]
    · rw [List.length_take]; omega
    · have hk12 : k < 12 := by
        have := lt_of_get hk
        rw [List.length_take] at this
        omega
      rw [List.getElem?_take, if_pos hk12] at hk
      cases k with
      | zero =>
        cases hk
        rw [Nat.sub_zero, hsn]
        exact g2.frame (fun a _ _ => ⟨out a (by omega), rfl⟩)
      | succ k =>
        have hk : U[k]? = some B := by simpa using hk
        have e : (s + 11 - (k + 1)) % 12 = (nx + 11 - k) % 12 := by omega
        rw [e]
        have hne : (nx + 11 - k) % 12 ≠ nx := by omega
        refine (h5 k B hk).frame (fun a a1 a2 => ?_)
        have f := f2 a (by
          rcases Nat.lt_or_ge ((nx + 11 - k) % 12) nx with q | q <;> omega)
        exact ⟨by rw [out a (by omega)]; exact f.1, f.2⟩
  rw [e461, nI_1]
  refine pk_le 12 (nx + 1) (fun z => jn 0 (by omega) (by omega)) (fun z => jn (nx + 1) (by omega) (by omega))
theorem c_takeBack {I : MI} {L : ML} {U : List St} {Q : Int32 → MI → ML → Prop} (hu : UR I L U) (h0 : U = [] → Q 0 I L) (h1 : ∀ A V, U = A :: V → ∀ I' L', UR I' L' V → CR 2 I' L' A → (∀ k, (k < 2 ∨ 24 ≤ k) → k ≠ 46 → I' k = I k ∧ L' k = L k) → Q 1 I' L') : wp_X0_takeBack 2 I L Q := by
  obtain ⟨nx, g1, g2, g3, g4, g5⟩ := hu
  unfold wp_X0_takeBack
  rw [g2, g3]
  cases hU : U with
  | nil => exact ⟨fun z => absurd rfl z, fun _ => h0 hU⟩
  | cons A V =>
    rw [hU] at g3 g4 g5
    rw [List.length_cons] at g3 g4
    have jn : ∀ s, s < 12 → s = (nx + 11) % 12 → jn_X0_takeBack_28 2 I L (nI s) Q := by
      intro s hs hsn
      unfold jn_X0_takeBack_28
      intro I3 e3 I4 e4
      have e32 : I3 46 2 = nI (V.length + 1) := by rw [e3, u2_n2 (by omega)]; exact g3
      rw [e32, nI_pred] at e4
      have out : ∀ k, k ≠ 46 → I4 k = I k := fun k hk => by rw [e4, u2_ne hk, e3, u2_ne hk]
      have e41 : I4 46 1 = nI s := by rw [e4, u2_n2 (by omega), e3, u2_s]
      rw [e41, ix_nI (by omega)]
      have hA : CR (48 + 22 * s) I4 L A := by
        have := g5 0 A rfl
        rw [Nat.sub_zero, ← hsn] at this
        exact this.frame (fun a _ _ => ⟨out a (by omega), rfl⟩)
      refine ⟨vp_in_nI hs (by omega), c_copyFrom (by omega) hA (fun I6 L6 h6 f6 => ?_)⟩
      refine h1 A V hU I6 L6 ⟨s, hs, ?_, ?_, by omega, fun k B hk => ?_⟩ h6 (fun k hk hk46 => ⟨by rw [(f6 k (by omega)).1]; exact out k hk46, (f6 k (by omega)).2⟩)
      · rw [(f6 46 (by omega)).1]; exact e41
      · rw [(f6 46 (by omega)).1, e4, u2_s]
      · have hk12 := lt_of_get hk
        have := g5 (k + 1) B (by simpa using hk)
        have e : (nx + 11 - (k + 1)) % 12 = (s + 11 - k) % 12 := by omega
        rw [e] at this
        exact this.frame (fun a a1 a2 => ⟨by rw [(f6 a (by omega)).1]; exact out a (by omega), (f6 a (by omega)).2⟩)
    have hl : (A :: V).length ≤ 12 := by rw [List.length_cons]; omega
    refine ⟨fun _ => pk_le nx 0 (fun z => jn 11 (by omega) (by omega)) (fun z => ?_), fun z => absurd z (nI_ne0 (by simp) (by omega))⟩
    obtain ⟨q, rfl⟩ : ∃ q, nx = q + 1 := ⟨nx - 1, by omega⟩
    rw [nI_pred]
    exact jn q (by omega) (by omega)
