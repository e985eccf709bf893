theorem set_same_map {α β : Type} (f : α → β) {xs : List α} {i : Nat} {x y : α} (hx : xs[i]? = some x) (hf : f y = f x) : (xs.set i y).map f = xs.map f := by
  apply List.ext_getElem?
  intro j
  rw [List.getElem?_map, List.getElem?_map]
  by_cases hj : j = i
  · subst hj
    rw [List.getElem?_set_self (lt_of_get hx), hx]
    simp [hf]
  · rw [List.getElem?_set_ne (fun q => hj q.symm)]
/-- the lender's facts -/
theorem lendF_some {A : St} {c : Nat} : ∀ (n q : Nat), lendF A c n = some q → q < n ∧ 4 * q + c % 4 ≠ c ∧ sN A 1 3 < sN A 10 (4 * q + c % 4)
  | 0, q, h => by cases h
  | b + 1, q, h => by
    unfold lendF at h
    cases hb : lendF A c b with
    | none =>
      rw [hb] at h
      simp only at h
      by_cases hc : 4 * b + c % 4 ≠ c ∧ sN A 1 3 < sN A 10 (4 * b + c % 4)
      · rw [if_pos hc] at h
        cases h
        exact ⟨by omega, hc.1, hc.2⟩
      · rw [if_neg hc] at h
        cases h
    | some r =>
      rw [hb] at h
      simp only at h
      have ih := lendF_some b r hb
      by_cases hc : 4 * b + c % 4 ≠ c ∧ sN A 1 3 < sN A 10 (4 * b + c % 4) ∧ sN A 6 b < sN A 6 r
      · rw [if_pos hc] at h
        cases h
        exact ⟨by omega, hc.1, hc.2.1⟩
      · rw [if_neg hc] at h
        cases h
        exact ⟨by omega, ih.2.1, ih.2.2⟩
section LEND
variable {o : Nat} {I : MI} {L : ML} {A : St}
theorem hand_le {t s : Nat} (hd : DynX t s A) {c : Nat} (hc : c < 16) : sN A 10 c ≤ t := by
  have hTP := hd.2.2.2.2.2.2.2.1
  have := tot_le (f := sN A 10) 16 hc
  unfold TP at hTP
  omega
theorem c_lenderFor {c : Nat} {Q : Int32 → Prop} (h : CR o I L A) (hs : SetOk A) (hd : DynOk A) (hc : vc A c) (hQ : ∀ q, lendF A c (sN A 1 1) = some q → Q (nI (4 * q + c % 4))) (hQ0 : lendF A c (sN A 1 1) = none → Q (-1)) : wp_X2_lenderFor o I (nI c) Q := by
  have hc12 := vc_lt hs hc
  have hbases := hs.1.2.1
  have hkeep := hs.1.2.2.2.2.1
  have e11 : I (o + 1) 1 = nI (sN A 1 1) := h.n (nd1 (by omega))
  have e13 : I (o + 1) 3 = nI (sN A 1 3) := h.n (nd1 (by omega))
  have key : ∀ (m b : Nat) (v3 v4 : Int32), b + m = sN A 1 1 → (lendF A c b = none → v3 = -1) → (∀ q, lendF A c b = some q → v3 = nI (4 * q + c % 4) ∧ v4 = nI (sN A 6 q)) → lp_X2_lenderFor_13 o I (nI c) (nI (c % 4)) Q (m + 1) v3 v4 (nI b) := by
    intro m
    induction m with
    | zero =>
      intro b v3 v4 hb hn hsm
      have hb : b = sN A 1 1 := by omega
      subst hb
      unfold lp_X2_lenderFor_13
      rw [e11]
      refine ⟨fun _ => ?_, fun z => absurd (nI_le (Nat.le_refl _) (by omega)) z⟩
      cases hl : lendF A c (sN A 1 1) with
      | none => rw [hn hl]; exact hQ0 hl
      | some q => rw [(hsm q hl).1]; exact hQ q hl
    | succ m ih =>
      intro b v3 v4 hb hn hsm
      have hb3 : b < 3 := by omega
      have h16 : 4 * b + c % 4 < 16 := by omega
      have hhand := hand_le hd h16
      have hship := (hs.2.1 b (by omega)).2.2.2.2
      have e10 : I (o + 10) (4 * b + c % 4) = nI (sN A 10 (4 * b + c % 4)) := h.n (nd10 h16)
      have e6 : I (o + 6) b = nI (sN A 6 b) := h.n (ndp (by omega) (by omega) (by omega))
      unfold lp_X2_lenderFor_13
      rw [e11, e13]
      refine ⟨fun z => absurd z (nI_ge (by omega) (by omega)), fun _ => ⟨fun z => absurd z (by rw [show (3 : Int32) = nI 3 from rfl]; exact nI_ge (by omega) (by omega)), fun _ => s_placeOf ?_⟩⟩
      have skip : ∀ (w3 w4 : Int32), (lendF A c (b + 1) = none → w3 = -1) → (∀ q, lendF A c (b + 1) = some q → w3 = nI (4 * q + c % 4) ∧ w4 = nI (sN A 6 q)) → jn_X2_lenderFor_97 w3 w4 (nI b) (fun x6 x7 x8 => lp_X2_lenderFor_13 o I (nI c) (nI (c % 4)) Q (m + 1) x6 x7 x8) := by
        intro w3 w4 g1 g2
        unfold jn_X2_lenderFor_97
        rw [nI_1]
        exact ih (b + 1) w3 w4 (by omega) g1 g2
      have same : (¬ (4 * b + c % 4 ≠ c ∧ sN A 1 3 < sN A 10 (4 * b + c % 4))) → lendF A c (b + 1) = lendF A c b := by
        intro hno
        show (match lendF A c b with | none => _ | some q => _) = _
        cases hl : lendF A c b with
        | none => simp only; rw [if_neg hno]
        | some q => simp only; rw [if_neg (fun z => hno ⟨z.1, z.2.1⟩)]
      refine ⟨fun z => ?_, fun z => ⟨vp_in_nI h16 (by omega), ?_⟩⟩
      · have z : 4 * b + c % 4 = c := (nI_eq (by omega) (by omega)).mp z
        have hsame := same (fun q => q.1 z)
        exact skip v3 v4 (fun g => hn (by rw [← hsame]; exact g)) (fun q g => hsm q (by rw [← hsame]; exact g))
      · have z : 4 * b + c % 4 ≠ c := fun q => z ((nI_eq (by omega) (by omega)).mpr q)
        rw [ix_nI (by omega), e10]
        refine ⟨fun w => ?_, fun w => ?_⟩
        · have w : ¬ sN A 1 3 < sN A 10 (4 * b + c % 4) := by
            have := (nI_leI (by omega) (by omega)).mp w
            omega
          have hsame := same (fun q => w q.2)
          exact skip v3 v4 (fun g => hn (by rw [← hsame]; exact g)) (fun q g => hsm q (by rw [← hsame]; exact g))
        · have w : sN A 1 3 < sN A 10 (4 * b + c % 4) := by
            rcases Nat.lt_or_ge (sN A 1 3) (sN A 10 (4 * b + c % 4)) with q | q
            · exact q
            · exact absurd (nI_le q (by omega)) w
          have take : lendF A c (b + 1) = some b → jn_X2_lenderFor_82 o I (nI b) (nI (4 * b + c % 4)) (fun x6 x7 x8 => lp_X2_lenderFor_13 o I (nI c) (nI (c % 4)) Q (m + 1) x6 x7 x8) := by
            intro hb1
            unfold jn_X2_lenderFor_82
            refine ⟨vp_in_nI (by omega) (by omega), ?_⟩
            rw [ix_nI (by omega), e6]
            exact skip _ _ (fun g => by rw [hb1] at g; cases g) (fun q g => by rw [hb1] at g; cases g; exact ⟨rfl, rfl⟩)
          cases hl : lendF A c b with
          | none =>
            have hb1 : lendF A c (b + 1) = some b := by
              show (match lendF A c b with | none => _ | some q => _) = _
              rw [hl]
              simp only
              rw [if_pos ⟨z, w⟩]
            exact ⟨fun _ => take hb1, fun g => absurd (hn hl) g⟩
          | some r =>
            have hr := lendF_some b r hl
            obtain ⟨g3, g4⟩ := hsm r hl
            have hship2 := (hs.2.1 r (by omega)).2.2.2.2
            have hne : ¬ v3 = -1 := fun q => by
              rw [g3] at q
              have := nI_pos' (n := 4 * r + c % 4) (by omega)
              rw [q] at this
              exact absurd this (by decide)
            refine ⟨fun g => absurd g hne, fun _ => ⟨vp_in_nI (by omega) (by omega), ?_⟩⟩
            rw [ix_nI (by omega), e6, g4]
            refine ⟨fun g => ?_, fun g => ?_⟩
            · have g : sN A 6 r ≤ sN A 6 b := (nI_leI (by omega) (by omega)).mp g
              have hb1 : lendF A c (b + 1) = some r := by
                show (match lendF A c b with | none => _ | some q => _) = _
                rw [hl]
                simp only
                rw [if_neg (fun q => by omega)]
              exact skip v3 (nI (sN A 6 r)) (fun q => by rw [hb1] at q; cases q) (fun q e => by rw [hb1] at e; cases e; exact ⟨g3, rfl⟩)
            · have g : sN A 6 b < sN A 6 r := by
                rcases Nat.lt_or_ge (sN A 6 b) (sN A 6 r) with q | q
                · exact q
                · exact absurd (nI_le q (by omega)) g
              have hb1 : lendF A c (b + 1) = some b := by
                show (match lendF A c b with | none => _ | some q => _) = _
                rw [hl]
                simp only
                rw [if_pos ⟨z, w, g⟩]
              exact take hb1
  unfold wp_X2_lenderFor
  refine s_part ⟨sN A 1 1 + 1, ?_⟩
  rw [← nI_0]
  exact key (sN A 1 1) 0 (-1) (nI 0) (by omega) (fun _ => rfl) (fun q g => by cases g)
end LEND
