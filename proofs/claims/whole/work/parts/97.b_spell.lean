/-! a plan as a text: all of it -/
theorem catL_mono {g : Nat → List Nat} {p : Nat} : ∀ (n : Nat), p ≤ n → (catL g p).length ≤ (catL g n).length
  | 0, h => by rw [show p = 0 by omega]; exact Nat.le_refl _
  | n + 1, h => by
    by_cases hp : p = n + 1
    · rw [hp]; exact Nat.le_refl _
    · have := catL_mono (g := g) n (show p ≤ n by omega)
      show _ ≤ (catL g n ++ g n).length
      rw [List.length_append]
      omega
theorem catL_s (g : Nat → List Nat) (n : Nat) : catL g (n + 1) = catL g n ++ g n := rfl
theorem nm2 {v : Nat} (h : v < 10) : (nmL v).length = 2 := by rw [nmL_len, if_pos h]
theorem nm3 (v : Nat) : (nmL v).length ≤ 3 := by rw [nmL_len]; split <;> omega
section LEN
variable {A : St}
theorem one_len {w v : Nat} (hv : v < 10) : (oneL w v).length = (wl w).length + 3 := by
  unfold oneL
  rw [List.length_append, List.length_append, nm2 hv]
  rfl
theorem part_len (hs : SetOk A) {p : Nat} (hp : p < 4) : (partL A p).length ≤ 12 := by
  obtain ⟨a, b, c, d, e⟩ := hs.2.1 p hp
  unfold partL
  rw [List.length_append, List.length_append, List.length_append, List.length_append, nm2 (v := sN A 3 p) (by omega), nm2 (v := sN A 4 p) (by omega)]
  have := nm3 (sN A 2 p)
  have h : (wl 3).length = 4 := rfl
  rw [List.length_singleton]
  omega
theorem cell_len (hs : SetOk A) (h9 : St9 A) {b p : Nat} (hb : b < 3) (hp : p < 3) : (cellL A b p).length ≤ 16 := by
  obtain ⟨x, y, z⟩ := hs.2.2.2.2.1 (4 * b + p) (by omega)
  have z9 := h9 (4 * b + p) (by omega)
  unfold cellL
  split
  · exact Nat.zero_le _
  · rw [List.length_append, List.length_append, List.length_append, List.length_append, List.length_append, List.length_append, nm2 (v := b) (by omega), nm2 (v := p) (by omega), nm2 (v := sN A 7 (4 * b + p)) (by omega), nm2 (v := sN A 9 (4 * b + p)) (by omega)]
    have := nm3 (sN A 8 (4 * b + p))
    have h : (wl 5).length = 4 := rfl
    rw [List.length_singleton]
    omega
theorem work_len (hs : SetOk A) {p : Nat} (hp : p < 4) : (workL A p).length ≤ 10 := by
  obtain ⟨a, b, c, d, e⟩ := hs.2.1 p hp
  unfold workL
  split
  · exact Nat.zero_le _
  · rw [List.length_append, List.length_append, List.length_append, nm2 (by omega), nm2 (by omega)]
    have h : (wl 6).length = 5 := rfl
    rw [List.length_singleton]
    omega
theorem cells_len (hs : SetOk A) (h9 : St9 A) : (catL (fun b => catL (cellL A b) (sN A 1 0)) (sN A 1 1)).length ≤ 144 ∧ ∀ b, b < sN A 1 1 → (catL (cellL A b) (sN A 1 0)).length ≤ 48 := by
  have h1 := hs.1.1
  have h2 := hs.1.2.1
  have row : ∀ b, b < sN A 1 1 → (catL (cellL A b) (sN A 1 0)).length ≤ 48 := fun b hb => by
    have := catL_len (g := cellL A b) (k := 16) (sN A 1 0) (fun p hp => cell_len hs h9 (by omega) (by omega))
    omega
  have := catL_len (g := fun b => catL (cellL A b) (sN A 1 0)) (k := 48) (sN A 1 1) row
  exact ⟨by omega, row⟩
theorem parts_len (hs : SetOk A) : (catL (partL A) (sN A 1 0)).length ≤ 36 := by
  have h1 := hs.1.1
  have := catL_len (g := partL A) (k := 12) (sN A 1 0) (fun p hp => part_len hs (by omega))
  omega
theorem bases_len (hs : SetOk A) : (catL (fun b => oneL 4 (sN A 6 b)) (sN A 1 1)).length ≤ 21 := by
  have h2 := hs.1.2.1
  have := catL_len (g := fun b => oneL 4 (sN A 6 b)) (k := 7) (sN A 1 1) (fun b hb => by
    obtain ⟨_, _, _, _, e⟩ := hs.2.1 b (by omega)
    rw [one_len (by omega)]
    exact Nat.le_refl _)
  omega
theorem works_len (hs : SetOk A) : (catL (workL A) (sN A 1 0)).length ≤ 30 := by
  have h1 := hs.1.1
  have := catL_len (g := workL A) (k := 10) (sN A 1 0) (fun p hp => work_len hs (by omega))
  omega
end LEN
section SPC2
variable {A : St}
theorem c_parts {I : MI} {l : List Nat} {Q : MI → Prop} (hP : PR 3 I A) (hs : SetOk A) (h : CS I l) (hl : l.length ≤ 24) (hQ : ∀ I', CS I' (l ++ catL (partL A) (sN A 1 0)) → FS I I' → Q I') : wp_X6_writeParts 3 I Q := by
  have h1 := hs.1.1
  have ht := parts_len hs
  have key : ∀ (m p : Nat) (J : MI), p + m = sN A 1 0 → CS J (l ++ catL (partL A) p) → FS I J → lp_X6_writeParts_2 3 Q (m + 1) (nI p) J := by
    intro m
    induction m with
    | zero =>
      intro p J hp hc hf
      have hPJ : PR 3 J A := hP.fr (fun k a b => hf.1 k (by omega) (by omega))
      have e0 : J 3 0 = nI (sN A 1 0) := hPJ 0 0 (nd1 (by omega)) (by omega)
      have hp : p = sN A 1 0 := by omega
      unfold lp_X6_writeParts_2
      rw [e0, hp]
      rw [hp] at hc
      exact ⟨fun _ => hQ J hc hf, fun z => absurd (nI_le (Nat.le_refl _) (by omega)) z⟩
    | succ m ih =>
      intro p J hp hc hf
      have pr : ∀ (J' : MI), FS I J' → ∀ j, 1 ≤ j → j ≤ 3 → J' (3 + j) p = nI (sN A (j + 1) p) := fun J' hf' j h1 h2 => (hP.fr (fun k a b => hf'.1 k (by omega) (by omega))) j p (ndp (by omega) (by omega) (by omega)) (by omega)
      have e0 : J 3 0 = nI (sN A 1 0) := (hP.fr (fun k a b => hf.1 k (by omega) (by omega))) 0 0 (nd1 (by omega)) (by omega)
      obtain ⟨q1, q2, q3, -, -⟩ := hs.2.1 p (by omega)
      have hmo := catL_mono (g := partL A) (p := p + 1) (sN A 1 0) (by omega)
      rw [catL_s, List.length_append] at hmo
      have hpl : (partL A p).length = 4 + (nmL (sN A 2 p)).length + (nmL (sN A 3 p)).length + (nmL (sN A 4 p)).length + 1 := by
        unfold partL
        rw [List.length_append, List.length_append, List.length_append, List.length_append]
        rfl
      have vp : vp_in (nI p) 4 := vp_in_nI (by omega) (by omega)
      unfold lp_X6_writeParts_2
      rw [e0, show (3 : Int32) = nI 3 from rfl, ix_nI (by omega)]
      refine ⟨fun z => absurd z (nI_ge (by omega) (by omega)), fun _ => ⟨fun z => absurd z (nI_ge (by omega) (by omega)), fun _ => ?_⟩⟩
      have wl3 : (wl 3).length = 4 := rfl
      refine c_word hc (by omega) (by rw [List.length_append]; omega) (fun I3 c3 f3 => ⟨vp, ?_⟩)
      rw [show I3 (3 + 1) p = nI (sN A 2 p) from pr I3 (hf.tr f3) 1 (by omega) (by omega)]
      refine c_num c3 (by omega) (by simp only [List.length_append]; omega) (fun I5 c5 f5 => ⟨vp, ?_⟩)
      rw [show I5 (3 + 2) p = nI (sN A 3 p) from pr I5 ((hf.tr f3).tr f5) 2 (by omega) (by omega)]
      refine c_num c5 (by omega) (by simp only [List.length_append]; omega) (fun I7 c7 f7 => ⟨vp, ?_⟩)
      rw [show I7 (3 + 3) p = nI (sN A 4 p) from pr I7 (((hf.tr f3).tr f5).tr f7) 3 (by omega) (by omega)]
      refine c_num c7 (by omega) (by simp only [List.length_append]; omega) (fun I9 c9 f9 => c_semi c9 (by simp only [List.length_append]; omega) (fun I10 c10 f10 => ?_))
      rw [nI_1]
      refine ih (p + 1) I10 (by omega) ?_ (((((hf.tr f3).tr f5).tr f7).tr f9).tr f10)
      have hpd : partL A p = wl 3 ++ nmL (sN A 2 p) ++ nmL (sN A 3 p) ++ nmL (sN A 4 p) ++ [59] := rfl
      rw [catL_s, hpd]
      simp only [List.append_assoc] at c10 ⊢
      exact c10
  unfold wp_X6_writeParts
  refine ⟨sN A 1 0 + 1, ?_⟩
  rw [← nI_0]
  exact key _ 0 I (by omega) (by show CS I (l ++ []); rw [List.append_nil]; exact h) FS.rf
theorem c_bases {I : MI} {l : List Nat} {kf : MI → Prop} (hP : PR 3 I A) (hs : SetOk A) (h : CS I l) (hl : l.length ≤ 60) (hQ : ∀ I', CS I' (l ++ catL (fun b => oneL 4 (sN A 6 b)) (sN A 1 1)) → FS I I' → kf I') : ∃ N, lp_X6_write_39 3 kf N 0 I := by
  have h2 := hs.1.2.1
  have ht := bases_len hs
  have key : ∀ (m p : Nat) (J : MI), p + m = sN A 1 1 → CS J (l ++ catL (fun b => oneL 4 (sN A 6 b)) p) → FS I J → lp_X6_write_39 3 kf (m + 1) (nI p) J := by
    intro m
    induction m with
    | zero =>
      intro p J hp hc hf
      have e1 : J 3 1 = nI (sN A 1 1) := (hP.fr (fun k a b => hf.1 k (by omega) (by omega))) 0 1 (nd1 (by omega)) (by omega)
      have hp : p = sN A 1 1 := by omega
      unfold lp_X6_write_39
      rw [e1, hp]
      rw [hp] at hc
      exact ⟨fun _ => hQ J hc hf, fun z => absurd (nI_le (Nat.le_refl _) (by omega)) z⟩
    | succ m ih =>
      intro p J hp hc hf
      have hPJ : PR 3 J A := hP.fr (fun k a b => hf.1 k (by omega) (by omega))
      have e1 : J 3 1 = nI (sN A 1 1) := hPJ 0 1 (nd1 (by omega)) (by omega)
      have e8 : J (3 + 5) p = nI (sN A 6 p) := hPJ 5 p (ndp (by omega) (by omega) (by omega)) (by omega)
      obtain ⟨-, -, -, -, q5⟩ := hs.2.1 p (by omega)
      have hmo := catL_mono (g := fun b => oneL 4 (sN A 6 b)) (p := p + 1) (sN A 1 1) (by omega)
      rw [catL_s, List.length_append] at hmo
      unfold lp_X6_write_39
      rw [e1, show (3 : Int32) = nI 3 from rfl, ix_nI (by omega), e8]
      refine ⟨fun z => absurd z (nI_ge (by omega) (by omega)), fun _ => ⟨fun z => absurd z (nI_ge (by omega) (by omega)), fun _ => ⟨vp_in_nI (by omega) (by omega), c_one (w := 4) hc (by omega) (by omega) (by rw [List.length_append]; omega) (fun I9 c9 f9 => ?_)⟩⟩⟩
      rw [nI_1]
      refine ih (p + 1) I9 (by omega) ?_ (hf.tr f9)
      rw [catL_s, ← List.append_assoc]
      exact c9
  refine ⟨sN A 1 1 + 1, ?_⟩
  rw [← nI_0]
  exact key _ 0 I (by omega) (by show CS I (l ++ []); rw [List.append_nil]; exact h) FS.rf
theorem c_cells {I : MI} {l : List Nat} {Q : MI → Prop} (hP : PR 3 I A) (hs : SetOk A) (h9 : St9 A) (h : CS I l) (hl : l.length ≤ 81) (hQ : ∀ I', CS I' (l ++ catL (fun b => catL (cellL A b) (sN A 1 0)) (sN A 1 1)) → FS I I' → Q I') : wp_X6_writeCells 3 I Q := by
  have h1 := hs.1.1
  have h2 := hs.1.2.1
  obtain ⟨ht, hrow⟩ := cells_len hs h9
  have inner : ∀ (b : Nat) (kf : MI → Prop) (l' : List Nat), b < sN A 1 1 → l'.length + (catL (cellL A b) (sN A 1 0)).length ≤ 256 → (∀ I', CS I' (l' ++ catL (cellL A b) (sN A 1 0)) → FS I I' → kf I') → ∀ (m p : Nat) (J : MI), p + m = sN A 1 0 → CS J (l' ++ catL (cellL A b) p) → FS I J → lp_X6_writeCells_17 3 (nI b) kf (m + 1) (nI p) J := by
    intro b kf l' hb hl' hk m
    induction m with
    | zero =>
      intro p J hp hc hf
      have e0 : J 3 0 = nI (sN A 1 0) := (hP.fr (fun k a b => hf.1 k (by omega) (by omega))) 0 0 (nd1 (by omega)) (by omega)
      have hp : p = sN A 1 0 := by omega
      unfold lp_X6_writeCells_17
      rw [e0, hp]
      rw [hp] at hc
      exact ⟨fun _ => hk J hc hf, fun z => absurd (nI_le (Nat.le_refl _) (by omega)) z⟩
    | succ m ih =>
      intro p J hp hc hf
      have h16 : 4 * b + p < 16 := by omega
      have pr : ∀ (J' : MI), FS I J' → J' (3 + 6) (4 * b + p) = nI (sN A 7 (4 * b + p)) ∧ J' (3 + 7) (4 * b + p) = nI (sN A 8 (4 * b + p)) ∧ J' (3 + 8) (4 * b + p) = nI (sN A 9 (4 * b + p)) := fun J' hf' => by
        have hp' : PR 3 J' A := hP.fr (fun k a b => hf'.1 k (by omega) (by omega))
        exact ⟨hp' 6 _ (nd7 h16) (by omega), hp' 7 _ (nd8 h16) (by omega), hp' 8 _ (nd9 h16) (by omega)⟩
      have e0 : J 3 0 = nI (sN A 1 0) := (hP.fr (fun k a b => hf.1 k (by omega) (by omega))) 0 0 (nd1 (by omega)) (by omega)
      obtain ⟨u1, u2', u3⟩ := hs.2.2.2.2.1 (4 * b + p) h16
      have s9 := h9 (4 * b + p) h16
      have hmo := catL_mono (g := cellL A b) (p := p + 1) (sN A 1 0) (by omega)
      rw [catL_s, List.length_append] at hmo
      have vp : vp_in (nI (4 * b + p)) 16 := vp_in_nI h16 (by omega)
      have out : ¬ (sN A 7 (4 * b + p) = 0 ∧ sN A 8 (4 * b + p) = 0 ∧ sN A 9 (4 * b + p) = 0) → jn_X6_writeCells_67 3 J (nI b) (nI p) (nI (4 * b + p)) (fun x20 I21 => (lp_X6_writeCells_17 3 (nI b) kf (m + 1) x20 I21)) := by
        intro hne
        have hcl : cellL A b p = wl 5 ++ nmL b ++ nmL p ++ nmL (sN A 7 (4 * b + p)) ++ nmL (sN A 8 (4 * b + p)) ++ nmL (sN A 9 (4 * b + p)) ++ [59] := if_neg hne
        have hlen : (cellL A b p).length = 4 + (nmL b).length + (nmL p).length + (nmL (sN A 7 (4 * b + p))).length + (nmL (sN A 8 (4 * b + p))).length + (nmL (sN A 9 (4 * b + p))).length + 1 := by
          rw [hcl]
          simp only [List.length_append]
          rfl
        have wl5 : (wl 5).length = 4 := rfl
        unfold jn_X6_writeCells_67 jn_X6_writeCells_121
        rw [ix_nI (by omega)]
        refine c_word (w := 5) hc (by omega) (by simp only [List.length_append]; omega) (fun I8 c8 f8 => c_num c8 (by omega) (by simp only [List.length_append]; omega) (fun I9 c9 f9 => c_num c9 (by omega) (by simp only [List.length_append]; omega) (fun I10 c10 f10 => ⟨vp, ?_⟩)))
        have f10' := ((hf.tr f8).tr f9).tr f10
        rw [(pr I10 f10').1]
        refine c_num c10 (by omega) (by simp only [List.length_append]; omega) (fun I12 c12 f12 => ⟨vp, ?_⟩)
        rw [(pr I12 (f10'.tr f12)).2.1]
        refine c_num c12 (by omega) (by simp only [List.length_append]; omega) (fun I14 c14 f14 => ⟨vp, ?_⟩)
        rw [(pr I14 ((f10'.tr f12).tr f14)).2.2]
        refine c_num c14 (by omega) (by simp only [List.length_append]; omega) (fun I16 c16 f16 => c_semi c16 (by simp only [List.length_append]; omega) (fun I17 c17 f17 => ?_))
        rw [nI_1]
        refine ih (p + 1) I17 (by omega) ?_ ((((f10'.tr f12).tr f14).tr f16).tr f17)
        rw [catL_s, hcl]
        simp only [List.append_assoc] at c17 ⊢
        exact c17
      obtain ⟨g7, g8, g9⟩ := pr J hf
      unfold lp_X6_writeCells_17
      rw [e0, show (3 : Int32) = nI 3 from rfl]
      refine ⟨fun z => absurd z (nI_ge (by omega) (by omega)), fun _ => ⟨fun z => absurd z (nI_ge (by omega) (by omega)), fun _ => s_placeOf ?_⟩⟩
      rw [ix_nI (by omega), g7, g8, g9]
      refine ⟨vp, (pk_eq (sN A 7 (4 * b + p)) 0 (fun z7 => ⟨vp, (pk_eq (sN A 8 (4 * b + p)) 0 (fun z8 => ⟨vp, pk_eq (sN A 9 (4 * b + p)) 0 (fun z9 => ?_) (fun z9 => out (fun g => z9 g.2.2))⟩) (fun z8 => out (fun g => z8 g.2.1))).symm⟩) (fun z7 => out (fun g => z7 g.1))).symm⟩
      unfold jn_X6_writeCells_121
      rw [nI_1]
      refine ih (p + 1) J (by omega) ?_ hf
      have hcl : cellL A b p = [] := if_pos ⟨z7, z8, z9⟩
      rw [catL_s, hcl, List.append_nil]
      exact hc
  have outer : ∀ (m b : Nat) (J : MI), b + m = sN A 1 1 → CS J (l ++ catL (fun b => catL (cellL A b) (sN A 1 0)) b) → FS I J → lp_X6_writeCells_2 3 Q (m + 1) (nI b) J := by
    intro m
    induction m with
    | zero =>
      intro b J hb hc hf
      have e1 : J 3 1 = nI (sN A 1 1) := (hP.fr (fun k a b => hf.1 k (by omega) (by omega))) 0 1 (nd1 (by omega)) (by omega)
      have hb : b = sN A 1 1 := by omega
      unfold lp_X6_writeCells_2
      rw [e1, hb]
      rw [hb] at hc
      exact ⟨fun _ => hQ J hc hf, fun z => absurd (nI_le (Nat.le_refl _) (by omega)) z⟩
    | succ m ih =>
      intro b J hb hc hf
      have e1 : J 3 1 = nI (sN A 1 1) := (hP.fr (fun k a b => hf.1 k (by omega) (by omega))) 0 1 (nd1 (by omega)) (by omega)
      have hmo := catL_mono (g := fun b => catL (cellL A b) (sN A 1 0)) (p := b + 1) (sN A 1 1) (by omega)
      rw [catL_s, List.length_append] at hmo
      unfold lp_X6_writeCells_2 jn_X6_writeCells_127
      rw [e1, show (3 : Int32) = nI 3 from rfl]
      refine ⟨fun z => absurd z (nI_ge (by omega) (by omega)), fun _ => ⟨fun z => absurd z (nI_ge (by omega) (by omega)), fun _ => ⟨sN A 1 0 + 1, ?_⟩⟩⟩
      rw [← nI_0]
      refine inner b _ (l ++ catL (fun b => catL (cellL A b) (sN A 1 0)) b) (by omega) (by rw [List.length_append]; omega) (fun I' c' f' => ?_) (sN A 1 0) 0 J (by omega) (by show CS J (_ ++ []); rw [List.append_nil]; exact hc) hf
      rw [nI_1]
      refine ih (b + 1) I' (by omega) ?_ f'
      rw [catL_s, ← List.append_assoc]
      exact c'
  unfold wp_X6_writeCells
  refine ⟨sN A 1 1 + 1, ?_⟩
  rw [← nI_0]
  exact outer _ 0 I (by omega) (by show CS I (l ++ []); rw [List.append_nil]; exact h) FS.rf
theorem c_works {I : MI} {l : List Nat} {Q : MI → Prop} (hP : PR 3 I A) (hs : SetOk A) (h : CS I l) (hl : l.length ≤ 225) (hQ : ∀ I', CS I' (l ++ catL (workL A) (sN A 1 0)) → FS I I' → Q I') : wp_X6_writeWorks 3 I Q := by
  have h1 := hs.1.1
  have ht := works_len hs
  have key : ∀ (m p : Nat) (J : MI), p + m = sN A 1 0 → CS J (l ++ catL (workL A) p) → FS I J → lp_X6_writeWorks_2 3 Q (m + 1) (nI p) J := by
    intro m
    induction m with
    | zero =>
      intro p J hp hc hf
      have e0 : J 3 0 = nI (sN A 1 0) := (hP.fr (fun k a b => hf.1 k (by omega) (by omega))) 0 0 (nd1 (by omega)) (by omega)
      have hp : p = sN A 1 0 := by omega
      unfold lp_X6_writeWorks_2
      rw [e0, hp]
      rw [hp] at hc
      exact ⟨fun _ => hQ J hc hf, fun z => absurd (nI_le (Nat.le_refl _) (by omega)) z⟩
    | succ m ih =>
      intro p J hp hc hf
      have pr : ∀ (J' : MI), FS I J' → J' (3 + 4) p = nI (sN A 5 p) := fun J' hf' => (hP.fr (fun k a b => hf'.1 k (by omega) (by omega))) 4 p (ndp (by omega) (by omega) (by omega)) (by omega)
      have e0 : J 3 0 = nI (sN A 1 0) := (hP.fr (fun k a b => hf.1 k (by omega) (by omega))) 0 0 (nd1 (by omega)) (by omega)
      obtain ⟨-, -, -, q4, -⟩ := hs.2.1 p (by omega)
      have hmo := catL_mono (g := workL A) (p := p + 1) (sN A 1 0) (by omega)
      rw [catL_s, List.length_append] at hmo
      have vp : vp_in (nI p) 4 := vp_in_nI (by omega) (by omega)
      unfold lp_X6_writeWorks_2 jn_X6_writeWorks_51
      rw [e0, show (3 : Int32) = nI 3 from rfl, ix_nI (by omega), pr J hf]
      refine ⟨fun z => absurd z (nI_ge (by omega) (by omega)), fun _ => ⟨fun z => absurd z (nI_ge (by omega) (by omega)), fun _ => ⟨vp, pk_eq (sN A 5 p) 0 (fun z => ?_) (fun z => ?_)⟩⟩⟩
      · rw [nI_1]
        refine ih (p + 1) J (by omega) ?_ hf
        have hwl : workL A p = [] := if_pos z
        rw [catL_s, hwl, List.append_nil]
        exact hc
      · have hwl : workL A p = wl 6 ++ nmL p ++ nmL (sN A 5 p) ++ [59] := if_neg z
        have hlen : (workL A p).length = 5 + (nmL p).length + (nmL (sN A 5 p)).length + 1 := by
          rw [hwl]
          simp only [List.length_append]
          rfl
        have wl6 : (wl 6).length = 5 := rfl
        refine c_word (w := 6) hc (by omega) (by simp only [List.length_append]; omega) (fun I7 c7 f7 => c_num c7 (by omega) (by simp only [List.length_append]; omega) (fun I8 c8 f8 => ⟨vp, ?_⟩))
        rw [pr I8 ((hf.tr f7).tr f8)]
        refine c_num c8 (by omega) (by simp only [List.length_append]; omega) (fun I10 c10 f10 => c_semi c10 (by simp only [List.length_append]; omega) (fun I11 c11 f11 => ?_))
        rw [nI_1]
        refine ih (p + 1) I11 (by omega) ?_ ((((hf.tr f7).tr f8).tr f10).tr f11)
        rw [catL_s, hwl]
        simp only [List.append_assoc] at c11 ⊢
        exact c11
  unfold wp_X6_writeWorks
  refine ⟨sN A 1 0 + 1, ?_⟩
  rw [← nI_0]
  exact key _ 0 I (by omega) (by show CS I (l ++ []); rw [List.append_nil]; exact h) FS.rf
theorem head_len (hs : SetOk A) : (oneL 0 (sN A 1 2) ++ oneL 1 (sN A 1 3) ++ oneL 2 (sN A 1 4)).length = 24 := by
  have s4 := hs.1.2.2.2.1
  have s5 := hs.1.2.2.2.2.1
  have s6 := hs.1.2.2.2.2.2
  rw [List.length_append, List.length_append, one_len (by omega), one_len (by omega), one_len (by omega)]
  rfl
theorem spL_len (hs : SetOk A) (h9 : St9 A) : (spL A).length ≤ 255 := by
  have a := head_len hs
  have b := parts_len hs
  have c := bases_len hs
  have d := (cells_len hs h9).1
  have e := works_len hs
  unfold spL
  rw [List.length_append, List.length_append, List.length_append, List.length_append]
  omega
theorem c_write {I : MI} {Q : MI → Prop} (hP : PR 3 I A) (hs : SetOk A) (h9 : St9 A) (hQ : ∀ I', CS I' (spL A) → FS I I' → Q I') : wp_X6_write 3 I Q := by
  have s4 := hs.1.2.2.2.1
  have s5 := hs.1.2.2.2.2.1
  have s6 := hs.1.2.2.2.2.2
  have hd := head_len hs
  rw [List.length_append, List.length_append] at hd
  have pr : ∀ (J : MI), FS I J → PR 3 J A := fun J hf => hP.fr (fun k a b => hf.1 k (by omega) (by omega))
  unfold wp_X6_write jn_X6_write_69
  intro I1 e1
  have f1 : FS I I1 := ⟨fun k a _ => by rw [e1, u2_ne a], fun s hs => by rw [e1, u2_n2 hs]⟩
  have c1 : CS I1 [] := ⟨by rw [e1, u2_s]; rfl, fun q x hx => by cases hx⟩
  rw [show I1 3 2 = nI (sN A 1 2) from (pr I1 f1) 0 2 (nd1 (by omega)) (by omega)]
  refine c_one (w := 0) c1 (by omega) (by omega) (by rw [List.length_nil]; omega) (fun I2 c2 f2 => ?_)
  have f2 := f1.tr f2
  rw [show I2 3 3 = nI (sN A 1 3) from (pr I2 f2) 0 3 (nd1 (by omega)) (by omega)]
  refine c_one (w := 1) c2 (by omega) (by omega) (by rw [List.nil_append]; omega) (fun I3 c3 f3 => ?_)
  have f3 := f2.tr f3
  rw [show I3 3 4 = nI (sN A 1 4) from (pr I3 f3) 0 4 (nd1 (by omega)) (by omega)]
  refine c_one (w := 2) c3 (by omega) (by omega) (by rw [List.nil_append, List.length_append]; omega) (fun I4 c4 f4 => ?_)
  have f4 := f3.tr f4
  rw [List.nil_append] at c4
  have l4 := head_len hs
  have b := parts_len hs
  have c := bases_len hs
  have d := (cells_len hs h9).1
  refine c_parts (pr I4 f4) hs c4 (by omega) (fun I5 c5 f5 => ?_)
  have f5 := f4.tr f5
  refine c_bases (pr I5 f5) hs c5 (by rw [List.length_append]; omega) (fun I6 c6 f6 => ?_)
  have f6 := f5.tr f6
  refine c_cells (pr I6 f6) hs h9 c6 (by rw [List.length_append, List.length_append]; omega) (fun I7 c7 f7 => ?_)
  have f7 := f6.tr f7
  refine c_works (pr I7 f7) hs c7 (by rw [List.length_append, List.length_append, List.length_append]; omega) (fun I8 c8 f8 => hQ I8 c8 (f7.tr f8))
end SPC2
section SPR2
variable {A : St} {Y : List (Nat × Nat × Nat × Nat)}
theorem FM.rr {I I' : MI} (f : FM I I') (h : RR I A Y) : RR I' A Y := h.cg (f.1 337 (by omega) (by omega))
theorem r_parts {I : MI} {l : List Nat} {kf : MI → Prop} (hR : RR I A Y) (hs : SetOk A) (h : MS I l) (hl : l.length ≤ 24) (hQ : ∀ I', MS I' (l ++ catL (partL A) (sN A 1 0)) → FM I I' → kf I') : ∃ N, lp_X10_spellsAll_46 kf N 0 I := by
  have h1 := hs.1.1
  have ht := parts_len hs
  have key : ∀ (m p : Nat) (J : MI), p + m = sN A 1 0 → MS J (l ++ catL (partL A) p) → FM I J → lp_X10_spellsAll_46 kf (m + 1) (nI p) J := by
    intro m
    induction m with
    | zero =>
      intro p J hp hc hf
      have e0 : J 337 0 = nI (sN A 1 0) := (hf.rr hR).n (j := 1) (i := 0) (by decide)
      have hp : p = sN A 1 0 := by omega
      unfold lp_X10_spellsAll_46
      rw [show ix 0 = 0 from by decide, e0, hp]
      rw [hp] at hc
      exact ⟨v0, fun _ => hQ J hc hf, fun z => absurd (nI_le (Nat.le_refl _) (by omega)) z⟩
    | succ m ih =>
      intro p J hp hc hf
      have e0 : J 337 0 = nI (sN A 1 0) := (hf.rr hR).n (j := 1) (i := 0) (by decide)
      obtain ⟨q1, q2, q3, -, -⟩ := hs.2.1 p (by omega)
      have hmo := catL_mono (g := partL A) (p := p) (sN A 1 0) (by omega)
      have n2 := nm3 (sN A 2 p)
      have n3 := nm3 (sN A 3 p)
      unfold lp_X10_spellsAll_46
      rw [show ix 0 = 0 from by decide, e0, show (20 : Int32) + nI p = nI (20 + p) from nI_add 20 p, show (23 : Int32) + nI p = nI (23 + p) from nI_add 23 p, show (26 : Int32) + nI p = nI (26 + p) from nI_add 26 p, ix_nI (by omega), ix_nI (by omega), ix_nI (by omega)]
      have wl3 : (wl 3).length = 4 := rfl
      have vi : ∀ n, n < 2212 → vp_in (nI n) 2212 := fun n hn => vp_in_nI hn (by omega)
      refine ⟨v0, fun z => absurd z (nI_ge (by omega) (by omega)), fun _ => r_spells (w := 3) hc (by omega) rfl (by rw [List.length_append]; omega) (fun I10 m10 f10 => ⟨vi _ (by omega), ?_⟩)⟩
      have f10 := hf.tr f10
      rw [show I10 337 (20 + p) = nI (sN A 2 p) from (f10.rr hR).n (j := 2) (i := p) (by unfold rd; simp; omega)]
      refine r_numb m10 (by omega) (by simp only [List.length_append]; omega) (fun I12 m12 f12 => ⟨vi _ (by omega), ?_⟩)
      have f12 := f10.tr f12
      rw [show I12 337 (23 + p) = nI (sN A 3 p) from (f12.rr hR).n (j := 3) (i := p) (by unfold rd; simp; omega)]
      refine r_numb m12 (by omega) (by simp only [List.length_append]; omega) (fun I14 m14 f14 => ⟨vi _ (by omega), ?_⟩)
      have f14 := f12.tr f14
      rw [show I14 337 (26 + p) = nI (sN A 4 p) from (f14.rr hR).n (j := 4) (i := p) (by unfold rd; simp; omega)]
      refine r_last m14 (by omega) (by simp only [List.length_append]; omega) (fun I16 m16 f16 => ?_)
      rw [nI_1]
      refine ih (p + 1) I16 (by omega) ?_ (f14.tr f16)
      have hpd : partL A p = wl 3 ++ nmL (sN A 2 p) ++ nmL (sN A 3 p) ++ nmL (sN A 4 p) ++ [59] := rfl
      rw [catL_s, hpd]
      simp only [List.append_assoc] at m16 ⊢
      exact m16
  refine ⟨sN A 1 0 + 1, ?_⟩
  rw [← nI_0]
  exact key _ 0 I (by omega) (by show MS I (l ++ []); rw [List.append_nil]; exact h) FM.rf
theorem r_bases {I : MI} {l : List Nat} {kf : MI → Prop} (hR : RR I A Y) (hs : SetOk A) (h : MS I l) (hl : l.length ≤ 60) (hQ : ∀ I', MS I' (l ++ catL (fun b => oneL 4 (sN A 6 b)) (sN A 1 1)) → FM I I' → kf I') : ∃ N, lp_X10_spellsAll_110 kf N 0 I := by
  have h2 := hs.1.2.1
  have ht := bases_len hs
  have key : ∀ (m p : Nat) (J : MI), p + m = sN A 1 1 → MS J (l ++ catL (fun b => oneL 4 (sN A 6 b)) p) → FM I J → lp_X10_spellsAll_110 kf (m + 1) (nI p) J := by
    intro m
    induction m with
    | zero =>
      intro p J hp hc hf
      have e1 : J 337 1 = nI (sN A 1 1) := (hf.rr hR).n (j := 1) (i := 1) (by decide)
      have hp : p = sN A 1 1 := by omega
      unfold lp_X10_spellsAll_110
      rw [show ix 1 = 1 from by decide, e1, hp]
      rw [hp] at hc
      exact ⟨v1, fun _ => hQ J hc hf, fun z => absurd (nI_le (Nat.le_refl _) (by omega)) z⟩
    | succ m ih =>
      intro p J hp hc hf
      have e1 : J 337 1 = nI (sN A 1 1) := (hf.rr hR).n (j := 1) (i := 1) (by decide)
      have e6 := rd6 (hf.rr hR) (b := p) (by omega)
      obtain ⟨-, -, -, -, q5⟩ := hs.2.1 p (by omega)
      have hmo := catL_mono (g := fun b => oneL 4 (sN A 6 b)) (p := p) (sN A 1 1) (by omega)
      unfold lp_X10_spellsAll_110
      rw [show ix 1 = 1 from by decide, e1, show (29 : Int32) + nI p = nI (29 + p) from nI_add 29 p, ix_nI (by omega), e6]
      refine ⟨v1, fun z => absurd z (nI_ge (by omega) (by omega)), fun _ => ⟨vp_in_nI (by omega) (by omega), r_one1 (w := 4) hc (by omega) rfl (by omega) (by rw [List.length_append]; omega) (fun I9 m9 f9 => ?_)⟩⟩
      rw [nI_1]
      refine ih (p + 1) I9 (by omega) ?_ (hf.tr f9)
      rw [catL_s, ← List.append_assoc]
      exact m9
  refine ⟨sN A 1 1 + 1, ?_⟩
  rw [← nI_0]
  exact key _ 0 I (by omega) (by show MS I (l ++ []); rw [List.append_nil]; exact h) FM.rf
theorem r_scell {I : MI} {l : List Nat} {b p : Nat} {Q : MI → Prop} (hR : RR I A Y) (hs : SetOk A) (hb : b < 3) (hp : p < 3) (h : MS I l) (hl : l.length ≤ 300) (hQ : ∀ I', MS I' (l ++ cellL A b p) → FM I I' → Q I') : wp_X10_spellsCell I (nI b) (nI p) Q := by
  obtain ⟨u1, u2', u3⟩ := hs.2.2.2.2.1 (4 * b + p) (by omega)
  have eb : (4 * b + p) / 4 = b := by omega
  have ep : (4 * b + p) % 4 = p := by omega
  have pr : ∀ (J : MI), FM I J → J 337 (32 + (3 * b + p)) = nI (sN A 7 (4 * b + p)) ∧ J 337 (41 + (3 * b + p)) = nI (sN A 8 (4 * b + p)) ∧ J 337 (50 + (3 * b + p)) = nI (sN A 9 (4 * b + p)) := fun J hf => by
    have hr := hf.rr hR
    obtain ⟨a, c⟩ := r_uo hr hb hp
    refine ⟨a, c, ?_⟩
    have := hr.n (rdC (j := 9) (b := b) (p := p) (by omega) (by omega) hb hp)
    rw [show ri 9 (4 * b + p) = 50 + (3 * ((4 * b + p) / 4) + (4 * b + p) % 4) from rfl, eb, ep] at this
    exact this
  obtain ⟨g7, g8, g9⟩ := pr I FM.rf
  have vi : ∀ n, n < 2212 → vp_in (nI n) 2212 := fun n hn => vp_in_nI hn (by omega)
  unfold wp_X10_spellsCell
  refine r_cellOf ?_
  rw [show (32 : Int32) + nI (3 * b + p) = nI (32 + (3 * b + p)) from nI_add 32 _, show (41 : Int32) + nI (3 * b + p) = nI (41 + (3 * b + p)) from nI_add 41 _, show (50 : Int32) + nI (3 * b + p) = nI (50 + (3 * b + p)) from nI_add 50 _, ix_nI (n := 32 + (3 * b + p)) (by omega), ix_nI (n := 41 + (3 * b + p)) (by omega), ix_nI (n := 50 + (3 * b + p)) (by omega), g7, g8, g9, nI_add, nI_add]
  refine ⟨vi _ (by omega), vi _ (by omega), vi _ (by omega), (pk_eq (sN A 7 (4 * b + p) + sN A 8 (4 * b + p) + sN A 9 (4 * b + p)) 0 (fun z => hQ I ?_ FM.rf) (fun z => ?_)).symm⟩
  · have hcl : cellL A b p = [] := if_pos (by omega)
    rw [hcl, List.append_nil]
    exact h
  · have hcl : cellL A b p = wl 5 ++ nmL b ++ nmL p ++ nmL (sN A 7 (4 * b + p)) ++ nmL (sN A 8 (4 * b + p)) ++ nmL (sN A 9 (4 * b + p)) ++ [59] := if_neg (by omega)
    have wl5 : (wl 5).length = 4 := rfl
    have n1 := nm3 b
    have n2 := nm3 p
    have n3 := nm3 (sN A 7 (4 * b + p))
    have n4 := nm3 (sN A 8 (4 * b + p))
    refine r_spells (w := 5) h (by omega) rfl (by omega) (fun I6 m6 f6 => r_numb m6 (by omega) (by simp only [List.length_append]; omega) (fun I7 m7 f7 => r_numb m7 (by omega) (by simp only [List.length_append]; omega) (fun I8 m8 f8 => ⟨vi _ (by omega), ?_⟩)))
    have f8 := (f6.tr f7).tr f8
    rw [(pr I8 f8).1]
    refine r_numb m8 (by omega) (by simp only [List.length_append]; omega) (fun I10 m10 f10 => ⟨vi _ (by omega), ?_⟩)
    have f10 := f8.tr f10
    rw [(pr I10 f10).2.1]
    refine r_numb m10 (by omega) (by simp only [List.length_append]; omega) (fun I12 m12 f12 => ⟨vi _ (by omega), ?_⟩)
    have f12 := f10.tr f12
    rw [(pr I12 f12).2.2]
    refine r_last m12 (by omega) (by simp only [List.length_append]; omega) (fun I14 m14 f14 => hQ I14 ?_ (f12.tr f14))
    rw [hcl]
    simp only [List.append_assoc] at m14 ⊢
    exact m14
theorem r_scells {I : MI} {l : List Nat} {kf : MI → Prop} (hR : RR I A Y) (hs : SetOk A) (h9 : St9 A) (h : MS I l) (hl : l.length ≤ 81) (hQ : ∀ I', MS I' (l ++ catL (fun b => catL (cellL A b) (sN A 1 0)) (sN A 1 1)) → FM I I' → kf I') : ∃ N, lp_X10_spellsAll_144 kf N 0 I := by
  have h1 := hs.1.1
  have h2 := hs.1.2.1
  obtain ⟨ht, hrow⟩ := cells_len hs h9
  have inner : ∀ (b : Nat) (kf : MI → Prop) (l' : List Nat), b < sN A 1 1 → l'.length ≤ 225 → (∀ I', MS I' (l' ++ catL (cellL A b) (sN A 1 0)) → FM I I' → kf I') → ∀ (m p : Nat) (J : MI), p + m = sN A 1 0 → MS J (l' ++ catL (cellL A b) p) → FM I J → lp_X10_spellsAll_156 (nI b) kf (m + 1) (nI p) J := by
    intro b kf l' hb hl' hk m
    induction m with
    | zero =>
      intro p J hp hc hf
      have e0 : J 337 0 = nI (sN A 1 0) := (hf.rr hR).n (j := 1) (i := 0) (by decide)
      have hp : p = sN A 1 0 := by omega
      unfold lp_X10_spellsAll_156
      rw [show ix 0 = 0 from by decide, e0, hp]
      rw [hp] at hc
      exact ⟨v0, fun _ => hk J hc hf, fun z => absurd (nI_le (Nat.le_refl _) (by omega)) z⟩
    | succ m ih =>
      intro p J hp hc hf
      have e0 : J 337 0 = nI (sN A 1 0) := (hf.rr hR).n (j := 1) (i := 0) (by decide)
      have hmo := catL_mono (g := cellL A b) (p := p) (sN A 1 0) (by omega)
      have := hrow b hb
      unfold lp_X10_spellsAll_156
      rw [show ix 0 = 0 from by decide, e0]
      refine ⟨v0, fun z => absurd z (nI_ge (by omega) (by omega)), fun _ => r_scell (hf.rr hR) hs (by omega) (by omega) hc (by rw [List.length_append]; omega) (fun I29 m29 f29 => ?_)⟩
      rw [nI_1]
      refine ih (p + 1) I29 (by omega) ?_ (hf.tr f29)
      rw [catL_s, ← List.append_assoc]
      exact m29
  have outer : ∀ (m b : Nat) (J : MI), b + m = sN A 1 1 → MS J (l ++ catL (fun b => catL (cellL A b) (sN A 1 0)) b) → FM I J → lp_X10_spellsAll_144 kf (m + 1) (nI b) J := by
    intro m
    induction m with
    | zero =>
      intro b J hb hc hf
      have e1 : J 337 1 = nI (sN A 1 1) := (hf.rr hR).n (j := 1) (i := 1) (by decide)
      have hb : b = sN A 1 1 := by omega
      unfold lp_X10_spellsAll_144
      rw [show ix 1 = 1 from by decide, e1, hb]
      rw [hb] at hc
      exact ⟨v1, fun _ => hQ J hc hf, fun z => absurd (nI_le (Nat.le_refl _) (by omega)) z⟩
    | succ m ih =>
      intro b J hb hc hf
      have e1 : J 337 1 = nI (sN A 1 1) := (hf.rr hR).n (j := 1) (i := 1) (by decide)
      have hmo := catL_mono (g := fun b => catL (cellL A b) (sN A 1 0)) (p := b) (sN A 1 1) (by omega)
      unfold lp_X10_spellsAll_144
      rw [show ix 1 = 1 from by decide, e1]
      refine ⟨v1, fun z => absurd z (nI_ge (by omega) (by omega)), fun _ => ⟨sN A 1 0 + 1, ?_⟩⟩
      rw [← nI_0]
      refine inner b _ (l ++ catL (fun b => catL (cellL A b) (sN A 1 0)) b) (by omega) (by rw [List.length_append]; omega) (fun I' c' f' => ?_) (sN A 1 0) 0 J (by omega) (by show MS J (_ ++ []); rw [List.append_nil]; exact hc) hf
      rw [nI_1]
      refine ih (b + 1) I' (by omega) ?_ f'
      rw [catL_s, ← List.append_assoc]
      exact c'
  refine ⟨sN A 1 1 + 1, ?_⟩
  rw [← nI_0]
  exact outer _ 0 I (by omega) (by show MS I (l ++ []); rw [List.append_nil]; exact h) FM.rf
theorem r_works {I : MI} {l : List Nat} {Q : MI → Prop} (hR : RR I A Y) (hs : SetOk A) (h : MS I l) (hl : l.length ≤ 225) (hQ : ∀ I', MS I' (l ++ catL (workL A) (sN A 1 0)) → FM I I' → Q I') : ∃ N, lp_X10_spellsAll_186 Q N 0 I := by
  have h1 := hs.1.1
  have ht := works_len hs
  have key : ∀ (m p : Nat) (J : MI), p + m = sN A 1 0 → MS J (l ++ catL (workL A) p) → FM I J → lp_X10_spellsAll_186 Q (m + 1) (nI p) J := by
    intro m
    induction m with
    | zero =>
      intro p J hp hc hf
      have e0 : J 337 0 = nI (sN A 1 0) := (hf.rr hR).n (j := 1) (i := 0) (by decide)
      have hp : p = sN A 1 0 := by omega
      unfold lp_X10_spellsAll_186
      rw [show ix 0 = 0 from by decide, e0, hp]
      rw [hp] at hc
      exact ⟨v0, fun _ => hQ J hc hf, fun z => absurd (nI_le (Nat.le_refl _) (by omega)) z⟩
    | succ m ih =>
      intro p J hp hc hf
      have pr : ∀ (J : MI), FM I J → J 337 (59 + p) = nI (sN A 5 p) := fun J hf => (hf.rr hR).n (j := 5) (i := p) (by unfold rd; simp; omega)
      have e0 : J 337 0 = nI (sN A 1 0) := (hf.rr hR).n (j := 1) (i := 0) (by decide)
      obtain ⟨-, -, -, q4, -⟩ := hs.2.1 p (by omega)
      have hmo := catL_mono (g := workL A) (p := p) (sN A 1 0) (by omega)
      have n1 := nm3 p
      have vi : ∀ n, n < 2212 → vp_in (nI n) 2212 := fun n hn => vp_in_nI hn (by omega)
      unfold lp_X10_spellsAll_186 jn_X10_spellsAll_233
      rw [show ix 0 = 0 from by decide, e0, show (59 : Int32) + nI p = nI (59 + p) from nI_add 59 p, ix_nI (by omega), pr J hf]
      refine ⟨v0, fun z => absurd z (nI_ge (by omega) (by omega)), fun _ => ⟨vi _ (by omega), pk_le (sN A 5 p) 0 (fun z => ?_) (fun z => ?_)⟩⟩
      · rw [nI_1]
        refine ih (p + 1) J (by omega) ?_ hf
        have hwl : workL A p = [] := if_pos (by omega)
        rw [catL_s, hwl, List.append_nil]
        exact hc
      · have hwl : workL A p = wl 6 ++ nmL p ++ nmL (sN A 5 p) ++ [59] := if_neg (by omega)
        have wl6 : (wl 6).length = 5 := rfl
        refine r_spells (w := 6) hc (by omega) rfl (by simp only [List.length_append]; omega) (fun I7 m7 f7 => r_numb m7 (by omega) (by simp only [List.length_append]; omega) (fun I8 m8 f8 => ⟨vi _ (by omega), ?_⟩))
        have f8 := (hf.tr f7).tr f8
        rw [pr I8 f8]
        refine r_last m8 (by omega) (by simp only [List.length_append]; omega) (fun I10 m10 f10 => ?_)
        rw [nI_1]
        refine ih (p + 1) I10 (by omega) ?_ (f8.tr f10)
        rw [catL_s, hwl]
        simp only [List.append_assoc] at m10 ⊢
        exact m10
  refine ⟨sN A 1 0 + 1, ?_⟩
  rw [← nI_0]
  exact key _ 0 I (by omega) (by show MS I (l ++ []); rw [List.append_nil]; exact h) FM.rf
theorem r_spellsAll {I : MI} {Q : MI → Prop} (hR : RR I A Y) (hs : SetOk A) (h9 : St9 A) (hQ : ∀ I', MS I' (spL A) → FM I I' → Q I') : wp_X10_spellsAll I Q := by
  have s4 := hs.1.2.2.2.1
  have s5 := hs.1.2.2.2.2.1
  have s6 := hs.1.2.2.2.2.2
  have hd := head_len hs
  rw [List.length_append, List.length_append] at hd
  unfold wp_X10_spellsAll
  intro I1 e1
  have f1 : FM I I1 := ⟨fun k a _ => by rw [e1, u2_ne a], fun s hs => by rw [e1, u2_n2 hs]⟩
  have c1 : MS I1 [] := ⟨by rw [e1, u2_s]; rfl, fun q x hx => by cases hx⟩
  rw [show ix 2 = 2 from by decide, show I1 337 2 = nI (sN A 1 2) from (f1.rr hR).n (j := 1) (i := 2) (by decide)]
  refine ⟨v2, r_one1 (w := 0) c1 (by omega) rfl (by omega) (by rw [List.length_nil]; omega) (fun I2 c2 f2 => ?_)⟩
  have f2 := f1.tr f2
  rw [show ix 3 = 3 from by decide, show I2 337 3 = nI (sN A 1 3) from (f2.rr hR).n (j := 1) (i := 3) (by decide)]
  refine ⟨v3, r_one1 (w := 1) c2 (by omega) rfl (by omega) (by rw [List.nil_append]; omega) (fun I3 c3 f3 => ?_)⟩
  have f3 := f2.tr f3
  rw [show ix 4 = 4 from by decide, show I3 337 4 = nI (sN A 1 4) from (f3.rr hR).n (j := 1) (i := 4) (by decide)]
  refine ⟨v4, r_one1 (w := 2) c3 (by omega) rfl (by omega) (by rw [List.nil_append, List.length_append]; omega) (fun I4 c4 f4 => ?_)⟩
  have f4 := f3.tr f4
  rw [List.nil_append] at c4
  have l4 := head_len hs
  have b := parts_len hs
  have c := bases_len hs
  have d := (cells_len hs h9).1
  refine r_parts (f4.rr hR) hs c4 (by omega) (fun I5 c5 f5 => ?_)
  have f5 := f4.tr f5
  refine r_bases (f5.rr hR) hs c5 (by rw [List.length_append]; omega) (fun I6 c6 f6 => ?_)
  have f6 := f5.tr f6
  refine r_scells (f6.rr hR) hs h9 c6 (by rw [List.length_append, List.length_append]; omega) (fun I7 c7 f7 => ?_)
  have f7 := f6.tr f7
  exact r_works (f7.rr hR) hs c7 (by rw [List.length_append, List.length_append, List.length_append]; omega) (fun I8 c8 f8 => hQ I8 c8 (f7.tr f8))
end SPR2
/-- what spell answers -/
def spV1 (A : St) (v : Int32) (Q : Int32 → Prop) : Prop := (v = -1 → Q (nI (spL A).length)) ∧ (∀ q x, v = nI q → (spL A)[q]? = some x → Q (nI x)) ∧ (∀ q, q < 2 ^ 31 → v = nI q → (spL A).length ≤ q → Q (-2)) ∧ (v < -1 → Q (-1))
theorem neg_cases {v : Int32} (h : ¬ v = -1) (h2 : (-1 : Int32) ≤ v) : ¬ v < 0 := by
  intro g
  have a := Int32.le_iff_toInt_le.mp h2
  have b := Int32.lt_iff_toInt_lt.mp g
  have c : (-1 : Int32).toInt = -1 := by decide
  have d : (0 : Int32).toInt = 0 := by decide
  refine h (Int32.toInt_inj.mp ?_)
  omega
theorem c_spell {I : MI} {A : St} {v : Int32} {Q : Int32 → MI → Prop} (hP : PR 3 I A) (hs : SetOk A) (h9 : St9 A) (hQ : ∀ I', FS I I' → spV1 A v (fun x => Q x I')) (hQ0 : v < -1 → Q (-1) I) : wp_X9_spell I v Q := by
  have hlen := spL_len hs h9
  unfold wp_X9_spell
  refine ⟨fun z => c_write hP hs h9 (fun I2 c2 f2 => ?_), fun z => hQ0 (Int32.not_le.mp z)⟩
  obtain ⟨q1, q2, q3, q4⟩ := hQ I2 f2
  rw [c2.1]
  refine ⟨fun w => ?_, fun w => q1 w⟩
  obtain ⟨q, hq, rfl⟩ := nI_of (neg_cases w z)
  refine pk_le (spL A).length q (fun u => q3 q hq rfl u) (fun u => ?_)
  rw [ix_nI hq, c2.2 q _ (List.getElem?_eq_getElem u)]
  exact ⟨vp_in_nI (by omega) (by omega), q2 q _ rfl (List.getElem?_eq_getElem u)⟩
theorem r_spell {I : MI} {A : St} {Y : List (Nat × Nat × Nat × Nat)} {v : Int32} {Q : Int32 → MI → Prop} (hR : RR I A Y) (hs : SetOk A) (h9 : St9 A) (hQ : ∀ I', FM I I' → spV1 A v (fun x => Q x I')) (hQ0 : v < -1 → Q (-1) I) : wp_X10_spell I v Q := by
  have hlen := spL_len hs h9
  unfold wp_X10_spell
  refine ⟨fun z => r_spellsAll hR hs h9 (fun I2 c2 f2 => ?_), fun z => hQ0 (Int32.not_le.mp z)⟩
  obtain ⟨q1, q2, q3, q4⟩ := hQ I2 f2
  rw [c2.1]
  refine ⟨fun w => ?_, fun w => q1 w⟩
  obtain ⟨q, hq, rfl⟩ := nI_of (neg_cases w z)
  refine pk_le (spL A).length q (fun u => q3 q hq rfl u) (fun u => ?_)
  rw [ix_nI hq, c2.2 q _ (List.getElem?_eq_getElem u)]
  exact ⟨vp_in_nI (by omega) (by omega), q2 q _ rfl (List.getElem?_eq_getElem u)⟩
