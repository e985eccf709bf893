/-! the two sides, side by side -/
theorem DynX.cong {A B : St} {t s : Nat} (h : DynX t s A) (e0 : sN B 0 = sN A 0) (e1 : sN B 1 0 = sN A 1 0) (e2 : sN B 1 1 = sN A 1 1) (e7 : sN B 7 = sN A 7) (e10 : sN B 10 = sN A 10) (e11 : sN B 11 = sN A 11) (e13 : sN B 13 = sN A 13) (eL : B.2.2 = A.2.2) : DynX t s B := by
  have hv : ∀ c, vc B c ↔ vc A c := fun c => by unfold vc; rw [e1, e2]
  have eW : sW B = sW A := congrArg (fun z => z.1) eL
  have eC : sC B = sC A := congrArg (fun z => z.2.1) eL
  have eY : sY B = sY A := congrArg (fun z => z.2.2.1) eL
  have eQ : sQ B = sQ A := congrArg (fun z => z.2.2.2) eL
  unfold DynX TP at h ⊢
  simp only [e0, e1, e7, e10, e11, e13, eW, eC, eY, eQ, hv]
  exact h
theorem DynX.set {A : St} {t s j i v : Nat} (h : DynX t s A) (hj : (j = 1 ∧ 2 ≤ i) ∨ (2 ≤ j ∧ j ≤ 9 ∧ j ≠ 7)) : DynX t s (setN A j i v) :=
  h.cong (setN_ne (by omega)) (by rw [setN_at, if_neg (by omega)]) (by rw [setN_at, if_neg (by omega)]) (setN_ne (by omega)) (setN_ne (by omega)) (setN_ne (by omega)) (setN_ne (by omega)) rfl
theorem DynX.tp {A : St} {t t' s : Nat} (h : DynX t s A) (ht : TP A ≤ t') : DynX t' s A := by
  obtain ⟨a1, a2, a3, a4, a5, a6, a7, -, a9⟩ := h
  exact ⟨a1, a2, a3, a4, a5, a6, a7, ht, a9⟩
theorem Rest.cong {A B : St} (h : Rest A) (e0 : sN B 0 = sN A 0) (e12 : sN B 1 2 = sN A 1 2) (eL : B.2.2 = A.2.2) : Rest B := by
  have eY : sY B = sY A := congrArg (fun z => z.2.2.1) eL
  have eQ : sQ B = sQ A := congrArg (fun z => z.2.2.2) eL
  unfold Rest YD fullQ at h ⊢
  simp only [e0, e12, eY, eQ]
  exact h
theorem Rest.set {A : St} {j i v : Nat} (h : Rest A) (hj : 1 ≤ j) (hi : ¬ (j = 1 ∧ i = 2)) : Rest (setN A j i v) :=
  h.cong (setN_ne (by omega)) (by rw [setN_at, if_neg (by omega)]) rfl
def cap (A : St) : Nat := tot (sN A 7) 16 + tot (sN A 9) 16 + tot (sN A 5) 4
theorem cap_le {A : St} (hs : SetOk A) (h9 : St9 A) : cap A ≤ 180 := by
  have h1 := hs.1.1
  have h2 := hs.1.2.1
  have g : ∀ c, c < 16 → sN A 9 c ≤ (if c / 4 < 3 ∧ c % 4 < 3 then 9 else 0) := by
    intro c hc
    have a := h9 c hc
    by_cases hv : c / 4 < 3 ∧ c % 4 < 3
    · rw [if_pos hv]; exact a
    · rw [if_neg hv]
      have := (hs.2.2.2.2.2.1 c hc (fun z => hv (by unfold vc at z; omega))).2.2
      omega
  have := tot_mono (f := sN A 9) 16 g
  have e : tot (fun c => if c / 4 < 3 ∧ c % 4 < 3 then 9 else 0) 16 = 81 := by decide
  have g2 : ∀ p, p < 4 → sN A 5 p ≤ (if p < 3 then 9 else 0) := by
    intro p hp
    have a := (hs.2.1 p hp).2.2.2.1
    by_cases hv : p < 3
    · rw [if_pos hv]; exact a
    · rw [if_neg hv]
      have := (hs.2.2.2.2.2.2.1 p hp (by omega)).2.2.2
      omega
  have t2 := tot_mono (f := sN A 5) 4 g2
  have e2 : tot (fun p => if p < 3 then 9 else 0) 4 = 27 := by decide
  have t3 := units72 hs
  unfold cap
  omega
def PG (k : Nat) (A : St) : Prop := Good A ∧ St9 A ∧ sN A 0 9 ≤ 9999 ∧ TP A ≤ cap A ∧ sN A 0 10 ≤ 1110000 * k
theorem PG.up {k : Nat} {A : St} (h : PG k A) : PG (k + 1) A := ⟨h.1, h.2.1, h.2.2.1, h.2.2.2.1, by have := h.2.2.2.2; omega⟩
theorem PG.wf {k : Nat} {A : St} (h : PG k A) (hk : k ≤ 512) : Wf A := h.1.2.1.wf h.1.1 (by have := h.2.2.2.2; omega)
theorem cap_PL {A B : St} (h : PL A B) : cap B = cap A := by
  unfold cap
  rw [h 7 (by omega) (by omega), h 9 (by omega) (by omega), h 5 (by omega) (by omega)]
theorem PG.of {k : Nat} {A B : St} (h : PG k A) (hg : Good B) (hl : PL A B) (h9 : sN B 0 9 ≤ 9999) (ht : TP B ≤ TP A) (hn : sN B 0 10 ≤ sN A 0 10 + 1110000) : PG (k + 1) B := by
  refine ⟨hg, fun c hc => ?_, h9, ?_, by have := h.2.2.2.2; omega⟩
  · rw [hl 9 (by omega) (by omega)]; exact h.2.1 c hc
  · rw [cap_PL hl]; have := h.2.2.2.1; omega
/-- what the odds are told of -/
def SP (A B : St) : Prop := sN B 1 0 = sN A 1 0 ∧ sN B 1 1 = sN A 1 1 ∧ sN B 2 = sN A 2 ∧ sN B 7 = sN A 7 ∧ sN B 8 = sN A 8
theorem PL.sp {A B : St} (h : PL A B) : SP A B := ⟨by rw [h 1 (by omega) (by omega)], by rw [h 1 (by omega) (by omega)], h 2 (by omega) (by omega), h 7 (by omega) (by omega), h 8 (by omega) (by omega)⟩
theorem SP_lkc {A B : St} (h : SP A B) (c s : Nat) : lkc B c s = lkc A c s := by unfold lkc; rw [h.2.2.2.1, h.2.2.2.2]
theorem SP_gn {A B : St} (h : SP A B) (f : Nat → Nat) (c : Nat) : gn B f c = gn A f c := by unfold gn; rw [SP_lkc h, SP_lkc h]
theorem SP_nbS {A B : St} (h : SP A B) (f : Nat → Nat) (o : Option Nat) (c : Nat) : nbS B f o c = nbS A f o c := by
  unfold nbS
  simp only [SP_gn h, h.2.2.1]
theorem SP_nbP {A B : St} (h : SP A B) (f : Nat → Nat) (b : Nat) : ∀ (m p : Nat) (o : Option Nat), nbP B f b m p o = nbP A f b m p o
  | 0, _, _ => rfl
  | m + 1, p, o => by unfold nbP; rw [SP_nbS h]; exact SP_nbP h f b m (p + 1) _
theorem SP_nbB {A B : St} (h : SP A B) (f : Nat → Nat) : ∀ (m b : Nat) (o : Option Nat), nbB B f m b o = nbB A f m b o
  | 0, _, _ => rfl
  | m + 1, b, o => by unfold nbB; rw [h.1, SP_nbP h]; exact SP_nbB h f m (b + 1) _
theorem SP_nextB {A B : St} (h : SP A B) (f : Nat → Nat) : nextB B f = nextB A f := by unfold nextB; rw [h.2.1, SP_nbB h]
theorem SP_blF {A B : St} (h : SP A B) : ∀ (m : Nat) (f : Nat → Nat) (s : Nat), blF B m f s = blF A m f s
  | 0, _, _ => rfl
  | m + 1, f, s => by
    unfold blF
    rw [SP_nextB h, h.2.2.1]
    cases nextB A f with
    | none => rfl
    | some c => simp only; rw [SP_blF h m]
theorem SP_bL {A B : St} (h : SP A B) : bL B = bL A := SP_blF h 72 _ 0
theorem SP_scan {A B : St} (h : SP A B) (W : Nat → Nat × Nat × Nat) (k m lim : Nat) : ∀ (f s : Nat) (cur : Nat × Nat × Nat), scan B W k m lim f s cur = scan A W k m lim f s cur
  | 0, _, _ => rfl
  | f + 1, s, cur => by
    rw [scan_s, scan_s, h.2.2.1, SP_scan h W k m lim f]
    unfold cand
    rw [SP_lkc h, h.2.2.1]
theorem SP_VV {A B : St} (h : SP A B) : ∀ (j : Nat), VV B j = VV A j
  | 0 => rfl
  | j + 1 => by
    funext m
    show scan B (VV B j) (8 - j) m (sN B 7 (cK (8 - j))) 10 0 (0, 0, 0) = scan A (VV A j) (8 - j) m (sN A 7 (cK (8 - j))) 10 0 (0, 0, 0)
    rw [SP_VV h j, h.2.2.2.1, SP_scan h]
theorem WI.cong {I : MI} {L : ML} {A B : St} (h : WI I L A) (e : SP A B) : WI I L B := by
  unfold WI WL WB WD at h ⊢
  rw [e.2.2.2.1, e.2.2.2.2, SP_bL e]
  simp only [SP_VV e]
  exact h
/-- the class's side -/
def VC (I : MI) (L : ML) (A : St) (U : List St) (t : Nat → Nat) (n : Nat) : Prop := CR 2 I L A ∧ UR I L U ∧ CT I t n ∧ I 0 1 = nI n ∧ WI I L A
/-- the reference's side -/
def VR (I : MI) (A : St) (U : List St) (t : Nat → Nat) (n : Nat) : Prop := (∃ Y, RR I A Y) ∧ UM I U ∧ I 336 6 = nI n ∧ ∀ k, k < n → I 340 k = nI (t k)
def Iv (k : Nat) (I : MI) (L : ML) : Prop := ∃ A U t n, VC I L A U t n ∧ VR I A U t n ∧ PG k A ∧ ∀ B ∈ U, PG k B
def HC (I I' : MI) : Prop := ∀ j, 336 ≤ j → I' j = I j
def LC (I I' : MI) : Prop := ∀ j, j < 336 → I' j = I j
theorem HC.rf {I : MI} : HC I I := fun _ _ => rfl
theorem LC.rf {I : MI} : LC I I := fun _ _ => rfl
theorem HC.tr {I J K : MI} (h : HC I J) (h2 : HC J K) : HC I K := fun j hj => (h2 j hj).trans (h j hj)
theorem LC.tr {I J K : MI} (h : LC I J) (h2 : LC J K) : LC I K := fun j hj => (h2 j hj).trans (h j hj)
section VCS
variable {I I' I'' : MI} {L L' : ML} {A B : St} {U V : List St} {t : Nat → Nat} {n k : Nat}
theorem WI.fr (h : WI I L A) (f : ∀ j, 326 ≤ j → j < 336 → I' j = I j) (g : ∀ j, 326 ≤ j → j < 336 → L' j = L j) : WI I' L' A := by
  unfold WI WL WB BR WD at h ⊢
  rw [f 326 (by omega) (by omega), f 329 (by omega) (by omega), f 330 (by omega) (by omega), f 331 (by omega) (by omega), f 334 (by omega) (by omega), f 335 (by omega) (by omega), g 327 (by omega) (by omega), g 328 (by omega) (by omega), g 333 (by omega) (by omega)]
  exact h
theorem CT.fr1 (h : CT I t n) (f : I' 1 = I 1) : CT I' t n := by
  unfold CT at h ⊢
  rw [f]
  exact h
theorem VC.fr (h : VC I L A U t n) (f : LC I I') (g : ∀ j, j < 336 → L' j = L j) : VC I' L' A U t n :=
  ⟨h.1.frame (fun q a b => ⟨f q (by omega), g q (by omega)⟩), h.2.1.frame (fun q a b => ⟨f q (by omega), g q (by omega)⟩), h.2.2.1.fr1 (f 1 (by omega)), by rw [f 0 (by omega)]; exact h.2.2.2.1, h.2.2.2.2.fr (fun j _ b => f j b) (fun j _ b => g j b)⟩
theorem VR.fr (h : VR I A U t n) (f : HC I I') : VR I' A U t n := by
  obtain ⟨⟨Y, hY⟩, h2, h3, h4⟩ := h
  exact ⟨⟨Y, hY.cg (f 337 (by omega))⟩, h2.fr (by rw [f 336 (by omega)]) (f 339 (by omega)), by rw [f 336 (by omega)]; exact h3, by rw [f 340 (by omega)]; exact h4⟩
theorem VC.rem (h : VC I L A U t n) (hu : UR I' L' V) (f : FrU I L I' L') : VC I' L' A V t n :=
  ⟨h.1.frame (fun q a b => f q (by omega)), hu, h.2.2.1.fr1 (f 1 (by omega)).1, by rw [(f 0 (by omega)).1]; exact h.2.2.2.1, h.2.2.2.2.fr (fun j a b => (f j (by omega)).1) (fun j a b => (f j (by omega)).2)⟩
theorem VC.op (h : VC I L A U t n) (hc : CR 2 I' L' B) (f : Fr 2 I L I' L') (e : SP A B) : VC I' L' B U t n :=
  ⟨hc, h.2.1.frame (fun q a b => f q (by omega)), h.2.2.1.fr1 (f 1 (by omega)).1, by rw [(f 0 (by omega)).1]; exact h.2.2.2.1, (h.2.2.2.2.fr (fun j a b => (f j (by omega)).1) (fun j a b => (f j (by omega)).2)).cong e⟩
theorem VC.were (h : VC I L A U t n) (f : Fr 24 I L I' L') : VC I' L' A U t n :=
  ⟨h.1.frame (fun q a b => f q (by omega)), h.2.1.frame (fun q a b => f q (by omega)), h.2.2.1.fr1 (f 1 (by omega)).1, by rw [(f 0 (by omega)).1]; exact h.2.2.2.1, h.2.2.2.2.fr (fun j a b => (f j (by omega)).1) (fun j a b => (f j (by omega)).2)⟩
theorem FrU.hc (f : FrU I L I' L') : HC I I' := fun j hj => (f j (by omega)).1
theorem Fr.hc (f : Fr 2 I L I' L') : HC I I' := fun j hj => (f j (by omega)).1
theorem Fr.hc24 (f : Fr 24 I L I' L') : HC I I' := fun j hj => (f j (by omega)).1
theorem RU.lc (f : RU I I') : LC I I' := fun j hj => f.1 j (by omega) (by omega)
theorem RG.lc (f : RG I I') : LC I I' := fun j hj => f.1 j (by omega) (by omega)
theorem RF.lc (f : RF I I') : LC I I' := fun j hj => f j (by omega)
theorem VR.rem (h : VR I A U t n) (hu : UM I' V) (f : RU I I') : VR I' A V t n := by
  obtain ⟨⟨Y, hY⟩, -, h3, h4⟩ := h
  exact ⟨⟨Y, hY.cg (f.1 337 (by omega) (by omega))⟩, hu, by rw [f.2 6 (by omega)]; exact h3, by rw [f.1 340 (by omega) (by omega)]; exact h4⟩
theorem VR.op (h : VR I A U t n) (hr : ∃ Y, RR I' B Y) (f : RG I I') : VR I' B U t n :=
  ⟨hr, h.2.1.fr (f.2 4 (by omega)) (f.1 339 (by omega) (by omega)), by rw [f.2 6 (by omega)]; exact h.2.2.1, by rw [f.1 340 (by omega) (by omega)]; exact h.2.2.2⟩
theorem PGs_up (h : ∀ B ∈ U, PG k B) : ∀ B ∈ U, PG (k + 1) B := fun B hB => (h B hB).up
theorem PGs_rem (h : ∀ B ∈ U, PG k B) (hA : PG k A) : ∀ B ∈ (A :: U).take 12, PG (k + 1) B := by
  intro B hB
  have := List.mem_of_mem_take hB
  rcases List.mem_cons.mp this with rfl | g
  · exact hA.up
  · exact (h B g).up
theorem Iv.mk' (hc : VC I' L' B V t n) (hr : VR I'' B V t n) (lc : LC I' I'') (hp : PG k B) (hu : ∀ C ∈ V, PG k C) : Iv k I'' L' := ⟨B, V, t, n, hc.fr lc (fun _ _ => rfl), hr, hp, hu⟩
end VCS
