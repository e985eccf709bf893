/-! the law's cases and its loop -/
def VP5 (v3 : Int32) (Ln : Nat) : Prop := vp_in (v3 + 1) Ln ∧ vp_in (v3 + 2) Ln ∧ vp_in (v3 + 3) Ln ∧ vp_in (v3 + 4) Ln ∧ vp_in (v3 + 5) Ln
section CASES
variable {k : Nat} {I : MI} {L : ML} {Ln : Nat} {xs : Nat → Int32} {v3 : Int32} {K : MI → ML → Prop}
theorem l_0 (hk : k ≤ 512) (h : Iv k I L) (V : VP5 v3 Ln) (hK : ∀ I' L', Iv (k + 1) I' L' → K I' L') : cs_0 Ln xs v3 I L K := by
  unfold cs_0
  exact ⟨V.1, V.2.1, V.2.2.1, V.2.2.2.1, V.2.2.2.2, (m_feed h (fun x I' hr => ⟨V.1, V.2.1, V.2.2.1, V.2.2.2.1, V.2.2.2.2, hr _ (fun I'' hI => ⟨fun _ => hK _ _ hI, fun z => absurd rfl z⟩)⟩))⟩
theorem l_1 (hk : k ≤ 512) (h : Iv k I L) (V : VP5 v3 Ln) (hK : ∀ I' L', Iv (k + 1) I' L' → K I' L') : cs_1 Ln xs v3 I L K := by
  unfold cs_1
  exact ⟨V.1, (m_back h (fun x I' hr => ⟨V.1, hr _ (fun I'' hI => ⟨fun _ => hK _ _ hI, fun z => absurd rfl z⟩)⟩))⟩
theorem l_2 (hk : k ≤ 512) (h : Iv k I L) (V : VP5 v3 Ln) (hK : ∀ I' L', Iv (k + 1) I' L' → K I' L') : cs_2 Ln xs v3 I L K := by
  unfold cs_2
  exact m_text h (fun x I' hr => hr _ (fun I'' hI => ⟨fun _ => hK _ _ hI, fun z => absurd rfl z⟩))
theorem l_3 (hk : k ≤ 512) (h : Iv k I L) (V : VP5 v3 Ln) (hK : ∀ I' L', Iv (k + 1) I' L' → K I' L') : cs_3 Ln xs v3 I L K := by
  unfold cs_3
  exact ⟨V.1, V.2.1, (m_breaks hk h (fun x I' L' hr => ⟨V.1, V.2.1, hr _ (fun I'' hI => ⟨fun _ => hK _ _ hI, fun z => absurd rfl z⟩)⟩))⟩
theorem l_4 (hk : k ≤ 512) (h : Iv k I L) (V : VP5 v3 Ln) (hK : ∀ I' L', Iv (k + 1) I' L' → K I' L') : cs_4 Ln xs v3 I L K := by
  unfold cs_4
  exact ⟨V.1, (m_pass hk h (fun x I' L' hr => ⟨V.1, hr _ (fun I'' hI => ⟨fun _ => hK _ _ hI, fun z => absurd rfl z⟩)⟩))⟩
theorem l_5 (hk : k ≤ 512) (h : Iv k I L) (V : VP5 v3 Ln) (hK : ∀ I' L', Iv (k + 1) I' L' → K I' L') : cs_5 Ln xs v3 I L K := by
  unfold cs_5
  exact ⟨V.1, V.2.1, (m_run hk h (fun x I' L' hr => ⟨V.1, V.2.1, hr _ (fun I'' hI => ⟨fun _ => hK _ _ hI, fun z => absurd rfl z⟩)⟩))⟩
theorem l_6 (hk : k ≤ 512) (h : Iv k I L) (V : VP5 v3 Ln) (hK : ∀ I' L', Iv (k + 1) I' L' → K I' L') : cs_6 Ln xs v3 I L K := by
  unfold cs_6
  exact ⟨V.1, V.2.1, (m_buy hk h (fun x I' L' hr => ⟨V.1, V.2.1, hr _ (fun I'' hI => ⟨fun _ => hK _ _ hI, fun z => absurd rfl z⟩)⟩))⟩
theorem l_7 (hk : k ≤ 512) (h : Iv k I L) (V : VP5 v3 Ln) (hK : ∀ I' L', Iv (k + 1) I' L' → K I' L') : cs_7 Ln xs v3 I L K := by
  unfold cs_7
  exact ⟨V.1, V.2.1, (m_sell h (fun x I' L' hr => ⟨V.1, V.2.1, hr _ (fun I'' hI => ⟨fun _ => hK _ _ hI, fun z => absurd rfl z⟩)⟩))⟩
theorem l_8 (hk : k ≤ 512) (h : Iv k I L) (V : VP5 v3 Ln) (hK : ∀ I' L', Iv (k + 1) I' L' → K I' L') : cs_8 Ln xs v3 I L K := by
  unfold cs_8
  exact ⟨V.1, (m_supply hk h (fun x I' L' hr => ⟨V.1, hr _ (fun I'' hI => ⟨fun _ => hK _ _ hI, fun z => absurd rfl z⟩)⟩))⟩
theorem l_9 (hk : k ≤ 512) (h : Iv k I L) (V : VP5 v3 Ln) (hK : ∀ I' L', Iv (k + 1) I' L' → K I' L') : cs_9 Ln xs v3 I L K := by
  unfold cs_9
  exact ⟨V.1, V.2.1, V.2.2.1, (m_set h (fun x I' L' hr => ⟨V.1, V.2.1, V.2.2.1, hr _ (fun I'' hI => ⟨fun _ => hK _ _ hI, fun z => absurd rfl z⟩)⟩))⟩
theorem l_10 (hk : k ≤ 512) (h : Iv k I L) (V : VP5 v3 Ln) (hK : ∀ I' L', Iv (k + 1) I' L' → K I' L') : cs_10 Ln xs v3 I L K := by
  unfold cs_10
  exact ⟨V.1, V.2.1, V.2.2.1, (m_odds h (fun x I' L' hr => ⟨V.1, V.2.1, V.2.2.1, hr _ (fun I'' hI => ⟨fun _ => hK _ _ hI, fun z => absurd rfl z⟩)⟩))⟩
theorem l_11 (hk : k ≤ 512) (h : Iv k I L) (V : VP5 v3 Ln) (hK : ∀ I' L', Iv (k + 1) I' L' → K I' L') : cs_11 Ln xs v3 I L K := by
  unfold cs_11
  exact ⟨V.1, (m_benches hk h (fun x I' L' hr => ⟨V.1, hr _ (fun I'' hI => ⟨fun _ => hK _ _ hI, fun z => absurd rfl z⟩)⟩))⟩
theorem l_12 (hk : k ≤ 512) (h : Iv k I L) (V : VP5 v3 Ln) (hK : ∀ I' L', Iv (k + 1) I' L' → K I' L') : cs_12 Ln xs v3 I L K := by
  unfold cs_12
  exact ⟨V.1, (m_keep h (fun x I' L' hr => ⟨V.1, hr _ (fun I'' hI => ⟨fun _ => hK _ _ hI, fun z => absurd rfl z⟩)⟩))⟩
theorem l_13 (hk : k ≤ 512) (h : Iv k I L) (V : VP5 v3 Ln) (hK : ∀ I' L', Iv (k + 1) I' L' → K I' L') : cs_13 Ln xs v3 I L K := by
  unfold cs_13
  exact m_rule h (fun x I' L' hr => hr _ (fun I'' hI => ⟨fun _ => hK _ _ hI, fun z => absurd rfl z⟩))
theorem l_14 (hk : k ≤ 512) (h : Iv k I L) (V : VP5 v3 Ln) (hK : ∀ I' L', Iv (k + 1) I' L' → K I' L') : cs_14 Ln xs v3 I L K := by
  unfold cs_14
  exact m_begin h (fun x I' L' hr => hr _ (fun I'' hI => ⟨fun _ => hK _ _ hI, fun z => absurd rfl z⟩))
theorem l_15 (hk : k ≤ 512) (h : Iv k I L) (V : VP5 v3 Ln) (hK : ∀ I' L', Iv (k + 1) I' L' → K I' L') : cs_15 Ln xs v3 I L K := by
  unfold cs_15
  exact m_undo h (fun x I' L' hr => hr _ (fun I'' hI => ⟨fun _ => hK _ _ hI, fun z => absurd rfl z⟩))
theorem l_16 (hk : k ≤ 512) (h : Iv k I L) (V : VP5 v3 Ln) (hK : ∀ I' L', Iv (k + 1) I' L' → K I' L') : cs_16 Ln xs v3 I L K := by
  unfold cs_16
  exact ⟨V.1, V.2.1, (a_part hk h (fun x hr => ⟨V.1, V.2.1, hr _ ⟨fun _ => hK _ _ h.up, fun z => absurd rfl z⟩⟩))⟩
theorem l_17 (hk : k ≤ 512) (h : Iv k I L) (V : VP5 v3 Ln) (hK : ∀ I' L', Iv (k + 1) I' L' → K I' L') : cs_17 Ln xs v3 I L K := by
  unfold cs_17
  exact ⟨V.1, V.2.1, (a_base hk h (fun x hr => ⟨V.1, V.2.1, hr _ ⟨fun _ => hK _ _ h.up, fun z => absurd rfl z⟩⟩))⟩
theorem l_18 (hk : k ≤ 512) (h : Iv k I L) (V : VP5 v3 Ln) (hK : ∀ I' L', Iv (k + 1) I' L' → K I' L') : cs_18 Ln xs v3 I L K := by
  unfold cs_18
  exact ⟨V.1, V.2.1, V.2.2.1, (a_cell hk h (fun x hr => ⟨V.1, V.2.1, V.2.2.1, hr _ ⟨fun _ => hK _ _ h.up, fun z => absurd rfl z⟩⟩))⟩
theorem l_19 (hk : k ≤ 512) (h : Iv k I L) (V : VP5 v3 Ln) (hK : ∀ I' L', Iv (k + 1) I' L' → K I' L') : cs_19 Ln xs v3 I L K := by
  unfold cs_19
  exact ⟨V.1, V.2.1, (a_want hk h (fun x hr => ⟨V.1, V.2.1, hr _ ⟨fun _ => hK _ _ h.up, fun z => absurd rfl z⟩⟩))⟩
theorem l_20 (hk : k ≤ 512) (h : Iv k I L) (V : VP5 v3 Ln) (hK : ∀ I' L', Iv (k + 1) I' L' → K I' L') : cs_20 Ln xs v3 I L K := by
  unfold cs_20
  exact ⟨V.1, V.2.1, V.2.2.1, (a_call hk h (fun x hr => ⟨V.1, V.2.1, V.2.2.1, hr _ ⟨fun _ => hK _ _ h.up, fun z => absurd rfl z⟩⟩))⟩
theorem l_21 (hk : k ≤ 512) (h : Iv k I L) (V : VP5 v3 Ln) (hK : ∀ I' L', Iv (k + 1) I' L' → K I' L') : cs_21 Ln xs v3 I L K := by
  unfold cs_21
  exact ⟨V.1, V.2.1, (a_way hk h (fun x hr => ⟨V.1, V.2.1, hr _ ⟨fun _ => hK _ _ h.up, fun z => absurd rfl z⟩⟩))⟩
theorem l_22 (hk : k ≤ 512) (h : Iv k I L) (V : VP5 v3 Ln) (hK : ∀ I' L', Iv (k + 1) I' L' → K I' L') : cs_22 Ln xs v3 I L K := by
  unfold cs_22
  exact ⟨V.1, (a_waits hk h (fun x hr => ⟨V.1, hr _ ⟨fun _ => hK _ _ h.up, fun z => absurd rfl z⟩⟩))⟩
theorem l_23 (hk : k ≤ 512) (h : Iv k I L) (V : VP5 v3 Ln) (hK : ∀ I' L', Iv (k + 1) I' L' → K I' L') : cs_23 Ln xs v3 I L K := by
  unfold cs_23
  exact ⟨V.1, (a_played hk h (fun x hr => ⟨V.1, hr _ ⟨fun _ => hK _ _ h.up, fun z => absurd rfl z⟩⟩))⟩
theorem l_24 (hk : k ≤ 512) (h : Iv k I L) (V : VP5 v3 Ln) (hK : ∀ I' L', Iv (k + 1) I' L' → K I' L') : cs_24 Ln xs v3 I L K := by
  unfold cs_24
  exact ⟨V.1, V.2.1, V.2.2.1, (m_out h (fun x I' L' hI hr => ⟨V.1, V.2.1, V.2.2.1, hr _ ⟨fun _ => hK _ _ hI, fun z => absurd (lg_self x) z⟩⟩))⟩
theorem l_25 (hk : k ≤ 512) (h : Iv k I L) (V : VP5 v3 Ln) (hK : ∀ I' L', Iv (k + 1) I' L' → K I' L') : cs_25 Ln xs v3 I L K := by
  unfold cs_25
  exact ⟨V.1, V.2.1, V.2.2.1, (m_lack h (fun x I' L' hI hr => ⟨V.1, V.2.1, V.2.2.1, hr _ ⟨fun _ => hK _ _ hI, fun z => absurd (lg_self x) z⟩⟩))⟩
theorem l_26 (hk : k ≤ 512) (h : Iv k I L) (V : VP5 v3 Ln) (hK : ∀ I' L', Iv (k + 1) I' L' → K I' L') : cs_26 Ln xs v3 I L K := by
  unfold cs_26
  exact m_lacks h (fun x I' L' hr => hr _ (fun I'' hI => ⟨fun _ => hK _ _ hI, fun z => absurd (lg_self x) z⟩))
theorem l_27 (hk : k ≤ 512) (h : Iv k I L) (V : VP5 v3 Ln) (hK : ∀ I' L', Iv (k + 1) I' L' → K I' L') : cs_27 Ln xs v3 I L K := by
  unfold cs_27
  exact ⟨V.1, V.2.1, V.2.2.1, (m_sure h (fun x I' L' hI hr => ⟨V.1, V.2.1, V.2.2.1, hr _ ⟨fun _ => hK _ _ hI, fun z => absurd rfl z⟩⟩))⟩
theorem l_28 (hk : k ≤ 512) (h : Iv k I L) (V : VP5 v3 Ln) (hK : ∀ I' L', Iv (k + 1) I' L' → K I' L') : cs_28 Ln xs v3 I L K := by
  unfold cs_28
  exact ⟨V.1, V.2.1, (m_buys h (fun x I' L' hr => ⟨V.1, V.2.1, hr _ (fun I'' hI => ⟨fun _ => hK _ _ hI, fun z => absurd rfl z⟩)⟩))⟩
theorem l_29 (hk : k ≤ 512) (h : Iv k I L) (V : VP5 v3 Ln) (hK : ∀ I' L', Iv (k + 1) I' L' → K I' L') : cs_29 Ln xs v3 I L K := by
  unfold cs_29
  exact ⟨V.1, V.2.1, (m_bought h (fun x I' L' hr => ⟨V.1, V.2.1, hr _ (fun I'' hI => ⟨fun _ => hK _ _ hI, fun z => absurd rfl z⟩)⟩))⟩
theorem l_30 (hk : k ≤ 512) (h : Iv k I L) (V : VP5 v3 Ln) (hK : ∀ I' L', Iv (k + 1) I' L' → K I' L') : cs_30 Ln xs v3 I L K := by
  unfold cs_30
  refine ⟨V.1, V.2.1, fun z => ?_, fun z => ?_⟩
  · unfold jn_L_law_1150 jn_L_law_1172
    exact m_lacksBy h (fun x I' L' hr => ⟨V.1, V.2.1, fun _ => hr _ (fun I'' L'' hI => ⟨fun _ => hK _ _ hI, fun y => absurd (lg_self x) y⟩), fun g => absurd z g⟩)
  · unfold jn_L_law_1150 jn_L_law_1172
    exact m_lacksBy h (fun x I' L' hr => ⟨V.1, V.2.1, fun g => absurd g z, fun _ => hr _ (fun I'' L'' hI => ⟨fun _ => hK _ _ hI, fun y => absurd (lg_self x) y⟩)⟩)
theorem l_31 (hk : k ≤ 512) (h : Iv k I L) (V : VP5 v3 Ln) (hK : ∀ I' L', Iv (k + 1) I' L' → K I' L') : cs_31 Ln xs v3 I L K := by
  unfold cs_31
  exact ⟨V.1, V.2.1, V.2.2.1, (m_best h (fun x I' L' hr => ⟨V.1, V.2.1, V.2.2.1, hr _ (fun I'' L'' hI => ⟨fun _ => hK _ _ hI, fun z => absurd rfl z⟩)⟩))⟩
theorem l_32 (hk : k ≤ 512) (h : Iv k I L) (V : VP5 v3 Ln) (hK : ∀ I' L', Iv (k + 1) I' L' → K I' L') : cs_32 Ln xs v3 I L K := by
  unfold cs_32
  exact ⟨V.1, (m_purseFor h (fun x I' L' hr => ⟨V.1, hr _ (fun I'' L'' hI => ⟨fun _ => hK _ _ hI, fun z => absurd rfl z⟩)⟩))⟩
theorem l_33 (hk : k ≤ 512) (h : Iv k I L) (V : VP5 v3 Ln) (hK : ∀ I' L', Iv (k + 1) I' L' → K I' L') : cs_33 Ln xs v3 I L K := by
  unfold cs_33
  exact ⟨V.1, V.2.1, V.2.2.1, (m_would hk h (fun x I' L' hr => ⟨V.1, V.2.1, V.2.2.1, hr _ (fun I'' hI => ⟨fun _ => hK _ _ hI, fun z => absurd rfl z⟩)⟩))⟩
theorem l_34 (hk : k ≤ 512) (h : Iv k I L) (V : VP5 v3 Ln) (hK : ∀ I' L', Iv (k + 1) I' L' → K I' L') : cs_34 Ln xs v3 I L K := by
  unfold cs_34
  exact ⟨V.1, V.2.1, V.2.2.1, V.2.2.2.1, (m_spared hk h (fun x I' L' hr => ⟨V.1, V.2.1, V.2.2.1, V.2.2.2.1, hr _ (fun I'' hI => ⟨fun _ => hK _ _ hI, fun z => absurd rfl z⟩)⟩))⟩
theorem l_35 (hk : k ≤ 512) (h : Iv k I L) (V : VP5 v3 Ln) (hK : ∀ I' L', Iv (k + 1) I' L' → K I' L') : cs_35 Ln xs v3 I L K := by
  unfold cs_35
  exact ⟨V.1, V.2.1, V.2.2.1, V.2.2.2.1, (m_by hk h (fun x I' L' hr => ⟨V.1, V.2.1, V.2.2.1, V.2.2.2.1, hr _ (fun I'' hI => ⟨fun _ => hK _ _ hI, fun z => absurd rfl z⟩)⟩))⟩
theorem l_36 (hk : k ≤ 512) (h : Iv k I L) (V : VP5 v3 Ln) (hK : ∀ I' L', Iv (k + 1) I' L' → K I' L') : cs_36 Ln xs v3 I L K := by
  unfold cs_36
  exact ⟨V.1, V.2.1, (m_bestKeep hk h (fun x I' L' hr => ⟨V.1, V.2.1, hr _ (fun I'' hI => ⟨fun _ => hK _ _ hI, fun z => absurd rfl z⟩)⟩))⟩
theorem l_37 (hk : k ≤ 512) (h : Iv k I L) (V : VP5 v3 Ln) (hK : ∀ I' L', Iv (k + 1) I' L' → K I' L') : cs_37 Ln xs v3 I L K := by
  unfold cs_37
  exact m_quiet hk h (fun x I' L' hr => hr _ (fun I'' hI => ⟨fun _ => hK _ _ hI, fun z => absurd rfl z⟩))
theorem l_38 (hk : k ≤ 512) (h : Iv k I L) (V : VP5 v3 Ln) (hK : ∀ I' L', Iv (k + 1) I' L' → K I' L') : cs_38 Ln xs v3 I L K := by
  unfold cs_38
  exact ⟨V.1, (a_spell h (fun x I' hr => ⟨V.1, hr _ (fun I'' hI => ⟨fun _ => hK _ _ hI, fun z => absurd rfl z⟩)⟩))⟩
theorem l_39 (hk : k ≤ 512) (h : Iv k I L) (V : VP5 v3 Ln) (hK : ∀ I' L', Iv (k + 1) I' L' → K I' L') : cs_39 Ln xs v3 I L K := by
  unfold cs_39
  exact ⟨V.1, (a_count h (fun x hr => ⟨V.1, hr _ ⟨fun _ => hK _ _ h.up, fun z => absurd rfl z⟩⟩))⟩
end CASES
theorem sem_loop {Ln : Nat} (hL : Ln ≤ 3072) (xs : Nat → Int32) : ∀ (N k : Nat) (I : MI) (L : ML), k + N = 513 → Iv k I L → lp_law Ln xs (N + 1) (nI (6 * k)) I L := by
  have e6 : 6 ≤ Ln → Int32.ofNat Ln - 6 = nI (Ln - 6) := fun h => pk_sub (b := 6) h
  have small : ∀ m : Nat, m < 2 ^ 31 → (Ln < 6 ∨ Ln - 6 < m) → Int32.ofNat Ln - 6 < nI m := by
    intro m hm h
    rcases Nat.lt_or_ge Ln 6 with g | g
    · have := pk_sneg (a := Ln) (b := 6) (by omega) g
      have p0 := nI_pos' (n := m) hm
      exact Int32.lt_of_lt_of_le this p0
    · rw [e6 g]
      exact nI_lt (by omega) hm
  intro N
  induction N with
  | zero =>
    intro k I L hk h
    unfold lp_law
    exact ⟨fun _ => trivial, fun z => absurd (small (6 * k) (by omega) (by omega)) z⟩
  | succ N ih =>
    intro k I L hkN h
    unfold lp_law
    refine ⟨fun _ => trivial, fun z => ?_⟩
    have hin : ¬ (Ln < 6 ∨ Ln - 6 < 6 * k) := fun g => z (small (6 * k) (by omega) g)
    have hk : k ≤ 512 := by omega
    have vp : ∀ j, j ≤ 5 → vp_in (nI (6 * k + j)) Ln := fun j hj => vp_in_nI (by omega) (by omega)
    have V : VP5 (nI (6 * k)) Ln := by
      refine ⟨?_, ?_, ?_, ?_, ?_⟩
      · rw [show nI (6 * k) + (1 : Int32) = nI (6 * k + 1) from nI_add _ 1]; exact vp 1 (by omega)
      · rw [show nI (6 * k) + (2 : Int32) = nI (6 * k + 2) from nI_add _ 2]; exact vp 2 (by omega)
      · rw [show nI (6 * k) + (3 : Int32) = nI (6 * k + 3) from nI_add _ 3]; exact vp 3 (by omega)
      · rw [show nI (6 * k) + (4 : Int32) = nI (6 * k + 4) from nI_add _ 4]; exact vp 4 (by omega)
      · rw [show nI (6 * k) + (5 : Int32) = nI (6 * k + 5) from nI_add _ 5]; exact vp 5 (by omega)
    have hK : ∀ I' L', Iv (k + 1) I' L' → (fun I L => lp_law Ln xs (N + 1) (nI (6 * k) + 6) I L) I' L' := by
      intro I' L' h'
      show lp_law Ln xs (N + 1) (nI (6 * k) + 6) I' L'
      rw [show nI (6 * k) + (6 : Int32) = nI (6 * (k + 1)) from nI_add _ 6]
      exact ih (k + 1) I' L' (by omega) h'
    exact ⟨vp 0 (by omega), fun _ => l_0 hk h V hK, fun _ => l_1 hk h V hK, fun _ => l_2 hk h V hK, fun _ => l_3 hk h V hK, fun _ => l_4 hk h V hK, fun _ => l_5 hk h V hK, fun _ => l_6 hk h V hK, fun _ => l_7 hk h V hK, fun _ => l_8 hk h V hK, fun _ => l_9 hk h V hK, fun _ => l_10 hk h V hK, fun _ => l_11 hk h V hK, fun _ => l_12 hk h V hK, fun _ => l_13 hk h V hK, fun _ => l_14 hk h V hK, fun _ => l_15 hk h V hK, fun _ => l_16 hk h V hK, fun _ => l_17 hk h V hK, fun _ => l_18 hk h V hK, fun _ => l_19 hk h V hK, fun _ => l_20 hk h V hK, fun _ => l_21 hk h V hK, fun _ => l_22 hk h V hK, fun _ => l_23 hk h V hK, fun _ => l_24 hk h V hK, fun _ => l_25 hk h V hK, fun _ => l_26 hk h V hK, fun _ => l_27 hk h V hK, fun _ => l_28 hk h V hK, fun _ => l_29 hk h V hK, fun _ => l_30 hk h V hK, fun _ => l_31 hk h V hK, fun _ => l_32 hk h V hK, fun _ => l_33 hk h V hK, fun _ => l_34 hk h V hK, fun _ => l_35 hk h V hK, fun _ => l_36 hk h V hK, fun _ => l_37 hk h V hK, fun _ => l_38 hk h V hK, fun _ => l_39 hk h V hK, fun _ => hK _ _ h.up⟩
