-- making cells: each new cell is the next of the layout
theorem Om_succ {E : Ev} {n : Nat} {I I' : MI} {L L' : ML} {R R' : MR} (hI : ∀ j, j ≠ n → I' j = I j) (hL : ∀ j, j ≠ n → L' j = L j) (hR : ∀ j, j ≠ n → R' j = R j) : Om E (n + 1) I' L' R' = Om E n I L R ++ [(ad E n, cE E (I' n) (L' n) (R' n) (sh n))] := by
  unfold Om
  rw [List.range_succ, List.map_append]
  congr 1
  apply List.map_congr_left
  intro k hk
  have hk : k ≠ n := Nat.ne_of_lt (List.mem_range.mp hk)
  rw [hI k hk, hL k hk, hR k hk]
theorem Dx.grow {E : Ev} {s : State} {n : Nat} {I I' : MI} {L L' : ML} {R R' : MR} {H H1 : Heap} {locs : List Loc} {cl : Nat} {w : va_E} (h : Dx E n I L R s H locs cl) (had : ad E n = eZ E + n) (hI : ∀ j, j ≠ n → I' j = I j) (hL : ∀ j, j ≠ n → L' j = L j) (hR : ∀ j, j ≠ n → R' j = R j) (hw : cE E (I' n) (L' n) (R' n) (sh n) = w) (e1 : va_at (eD E) vwC (ad E n, w) H1) (z1 : H1.size = H.size + 1) (o1 : ∀ q : Nat, q < H.size → H1[q]? = H[q]?) : Dx E (n + 1) I' L' R' s H1 locs (cl + 1) := by
  have hs := h.2.2.2.1
  have ht := h.2.2.2.2
  have hO := Om_succ (E := E) (I := I) (L := L) (R := R) hI hL hR
  rw [hw] at hO
  have hk : ∀ (k : Nat) (x : Nat × va_E), (Om E n I L R)[k]? = some x → H1[x.1]? = H[x.1]? := fun k x hx => o1 x.1 ((h.1 k x hx).lt)
  refine ⟨?_, ?_, ⟨Nat.le_trans h.S.1 (by omega), fun q h1 h2 => (o1 q (Nat.lt_of_lt_of_le h1 h.S.1)).trans (h.S.2.1 q h1 h2), h.S.2.2⟩, by omega, by omega⟩
  · rw [hO]
    refine (h.1.kept hk).app (fun k x hx => ?_)
    have hz : k < 1 := (List.getElem?_eq_some_iff.mp hx).1
    rw [show k = 0 by omega] at hx
    cases hx
    exact e1
  · rw [hO]
    exact h.D.push h.1 (by rw [had, hs]) (by rw [had]; exact Nat.le_add_right _ _)
section CT
variable {E : Ev} {l : Launch} {rm rm' : Room} {y y' : MethodName} {cc cc' : ByteArray} {nL nL' : Nat} {ret : Option FieldType} {Xt : Array Value → State → Prop} {Zf : List Frame → Array Value → State → State → Prop} {pc : Nat} {ls : List (Nat × Value)} {sk st : List Value} {n : Nat} {I : MI} {L : ML} {R : MR} {cl sl idx k ci na N : Nat} {C : String} {T : u_T} {Q' : Option Value → Nat → MI → ML → MR → Prop}
theorem x_new {ty0 : Nat → FieldType} (hd : decode cc pc = .ok (.new idx, 3)) (hcl : Cond.classLink y.cls idx C ∈ gt) (hins : Cond.instantiable C N ∈ gt) (hini : Cond.initialized C ∈ gt) (hw : ∀ w ∈ u_ws C T N, w ∈ gt) (hc : vwC[ci]? = some (C, T, N)) (hty : ∀ k, k < N → parseFieldDescriptor (T k).2.2.1 = some (ty0 k)) (hs : sh n = .inl ci) (hn : n < 1000) (hcells : cl + 1 ≤ rm.cells) (hsl : sl + N ≤ rm.slots) (hdef : ∀ E : Ev, ∀ j, j < N → defaultValue (ty0 j) = vp_V (fvs E (fun _ => 0) (fun _ => none) ci) j)
    (h : ∀ I' L' R', I' = ur I n (fun _ => 0) → L' = ur L n (fun _ => 0) → R' = ur R n (fun _ => none) → X E l rm y cc nL ret Xt Zf (pc + 3) ls (.ref n :: st) (n + 1) I' L' R' (cl + 1) (sl + N)) : X E l rm y cc nL ret Xt Zf pc ls st n I L R cl sl := by
  intro p e s m args below meth c hC H locs la hD hl
  have hKn := hC.K.1 ci _ hc
  refine W.newcK hC.1 hC.2.1 hC.own (hC.wd hcl) (hC.wd hins) (hC.wd hini) rfl hd hcells hsl hKn.2.1 rfl fun H1 kC hkC e1 z1 o1 => ?_
  have hq : H.size = ad E n := by rw [hC.ad n hn, hD.2.2.2.1]
  rw [hq] at e1
  have hX := h _ _ _ rfl rfl rfl p e s m args below meth c hC H1 locs la (hD.grow (hC.ad n hn) (fun _ h => ur_ne h) (fun _ h => ur_ne h) (fun _ h => ur_ne h) (w := .inr (ci, fvs E (fun _ => 0) (fun _ => none) ci)) (by rw [hs, ur_self, ur_self, ur_self]; rfl) ⟨_, hc, (u_born ty0 hC.ts hw hKn hkC e1 hty).to (hdef E)⟩ z1 o1) hl
  refine W.eq ?_ hX
  rw [hq]
  rfl
theorem arr_same {ty : FieldType} {cA cB : ClassId} {s : State} (h1 : s.vm.findClass ("[" ++ ty.toString) = some cA) (h2 : s.vm.findClass ("[" ++ ty.toString) = some cB) : cA = cB := Option.some.inj (h1.symm.trans h2)
theorem x_newi {v : Int32} (hd : decode cc pc = .ok (.newarray .int, 2)) (hw : Cond.arrayClass .int ∈ gt) (hs : sh n = .inr (0, N)) (hn : n < 1000) (hv : ¬ v < 0) (hN : v.toNatClampNeg = N) (hb : N * 8 ≤ 536870912) (hcells : cl + 1 ≤ rm.cells) (hsl : sl + N ≤ rm.slots)
    (h : ∀ I' L' R', I' = ur I n (fun _ => 0) → L' = ur L n (fun _ => 0) → R' = ur R n (fun _ => none) → X E l rm y cc nL ret Xt Zf (pc + 2) ls (.ref n :: st) (n + 1) I' L' R' (cl + 1) (sl + N)) : X E l rm y cc nL ret Xt Zf pc ls (.int v :: st) n I L R cl sl := by
  intro p e s m args below meth c hC H locs la hD hl
  refine va_newaK (atype := .int) hC.1 hC.2.1 (hC.wd hw) rfl hd rfl hv hN (Nat.le_trans (Nat.mul_le_mul_left N (by decide)) hb) hcells hsl rfl fun H1 cA e1 z1 o1 hAr hNm => ?_
  have hcA : cA = eA E 0 := arr_same (ty := .int) hNm (hC.K.2 0 _ rfl).2
  subst hcA
  have hq : H.size = ad E n := by rw [hC.ad n hn, hD.2.2.2.1]
  rw [hq] at e1
  have hX := h _ _ _ rfl rfl rfl p e s m args below meth c hC H1 locs la (hD.grow (hC.ad n hn) (fun _ h => ur_ne h) (fun _ h => ur_ne h) (fun _ h => ur_ne h) (w := .inl (eA E 0, N, .inl (fun _ => 0))) (by rw [hs, ur_self, ur_self, ur_self]; rfl) (by show H1[ad E n]? = some (vp_cell _ _); rw [vp_cell_i]; exact e1) z1 o1) hl
  refine W.eq ?_ hX
  rw [hq]
  rfl
theorem x_newb {v : Int32} (hd : decode cc pc = .ok (.newarray .byte, 2)) (hw : Cond.arrayClass .byte ∈ gt) (hs : sh n = .inr (2, N)) (hn : n < 1000) (hv : ¬ v < 0) (hN : v.toNatClampNeg = N) (hb : N * 8 ≤ 536870912) (hcells : cl + 1 ≤ rm.cells) (hsl : sl + N ≤ rm.slots)
    (h : ∀ I' L' R', I' = ur I n (fun _ => 0) → L' = ur L n (fun _ => 0) → R' = ur R n (fun _ => none) → X E l rm y cc nL ret Xt Zf (pc + 2) ls (.ref n :: st) (n + 1) I' L' R' (cl + 1) (sl + N)) : X E l rm y cc nL ret Xt Zf pc ls (.int v :: st) n I L R cl sl := by
  intro p e s m args below meth c hC H locs la hD hl
  refine va_newaK (atype := .byte) hC.1 hC.2.1 (hC.wd hw) rfl hd rfl hv hN (Nat.le_trans (Nat.mul_le_mul_left N (by decide)) hb) hcells hsl rfl fun H1 cA e1 z1 o1 hAr hNm => ?_
  have hcA : cA = eA E 2 := arr_same (ty := .byte) hNm (hC.K.2 2 _ rfl).2
  subst hcA
  have hq : H.size = ad E n := by rw [hC.ad n hn, hD.2.2.2.1]
  rw [hq] at e1
  have hX := h _ _ _ rfl rfl rfl p e s m args below meth c hC H1 locs la (hD.grow (hC.ad n hn) (fun _ h => ur_ne h) (fun _ h => ur_ne h) (fun _ h => ur_ne h) (w := .inl (eA E 2, N, .inl (fun _ => 0))) (by rw [hs, ur_self, ur_self, ur_self]; rfl) (by show H1[ad E n]? = some (vp_cell _ _); rw [vp_cell_i]; exact e1) z1 o1) hl
  refine W.eq ?_ hX
  rw [hq]
  rfl
theorem x_newl {v : Int32} (hd : decode cc pc = .ok (.newarray .long, 2)) (hw : Cond.arrayClass .long ∈ gt) (hs : sh n = .inr (1, N)) (hn : n < 1000) (hv : ¬ v < 0) (hN : v.toNatClampNeg = N) (hb : N * 8 ≤ 536870912) (hcells : cl + 1 ≤ rm.cells) (hsl : sl + N ≤ rm.slots)
    (h : ∀ I' L' R', I' = ur I n (fun _ => 0) → L' = ur L n (fun _ => 0) → R' = ur R n (fun _ => none) → X E l rm y cc nL ret Xt Zf (pc + 2) ls (.ref n :: st) (n + 1) I' L' R' (cl + 1) (sl + N)) : X E l rm y cc nL ret Xt Zf pc ls (.int v :: st) n I L R cl sl := by
  intro p e s m args below meth c hC H locs la hD hl
  refine va_newaK (atype := .long) hC.1 hC.2.1 (hC.wd hw) rfl hd rfl hv hN (Nat.le_trans (Nat.mul_le_mul_left N (by decide)) hb) hcells hsl rfl fun H1 cA e1 z1 o1 hAr hNm => ?_
  have hcA : cA = eA E 1 := arr_same (ty := .long) hNm (hC.K.2 1 _ rfl).2
  subst hcA
  have hq : H.size = ad E n := by rw [hC.ad n hn, hD.2.2.2.1]
  rw [hq] at e1
  have hX := h _ _ _ rfl rfl rfl p e s m args below meth c hC H1 locs la (hD.grow (hC.ad n hn) (fun _ h => ur_ne h) (fun _ h => ur_ne h) (fun _ h => ur_ne h) (w := .inl (eA E 1, N, .inr (.inl (fun _ => 0)))) (by rw [hs, ur_self, ur_self, ur_self]; rfl) (by show H1[ad E n]? = some (vp_cell _ _); rw [vp_cell_l]; exact e1) z1 o1) hl
  refine W.eq ?_ hX
  rw [hq]
  rfl
theorem x_anew {v : Int32} (hd : decode cc pc = .ok (.anewarray idx, 3)) (hcl : Cond.classLink y.cls idx "SparesHouse$Play" ∈ gt) (hs : sh n = .inr (3, N)) (hn : n < 1000) (hv : ¬ v < 0) (hN : v.toNatClampNeg = N) (hb : N * 4 ≤ 536870912) (hcells : cl + 1 ≤ rm.cells) (hsl : sl + N ≤ rm.slots)
    (h : ∀ I' L' R', I' = ur I n (fun _ => 0) → L' = ur L n (fun _ => 0) → R' = ur R n (fun _ => none) → X E l rm y cc nL ret Xt Zf (pc + 3) ls (.ref n :: st) (n + 1) I' L' R' (cl + 1) (sl + N)) : X E l rm y cc nL ret Xt Zf pc ls (.int v :: st) n I L R cl sl := by
  intro p e s m args below meth c hC H locs la hD hl
  subst hN
  refine W.anew hC.1 hC.2.1 hC.own (hC.wd hcl) (va_AO.use hC.so.2.2.2.2.2.2) rfl hd rfl hv hb hcells hsl fun cA kA comp f1 f2 f3 f4 => ?_
  generalize hH1 : H.push ({ cls := cA, slots := Array.replicate v.toNatClampNeg .null, vm := .none } : Cell) = H1
  have z1 : H1.size = H.size + 1 := by rw [← hH1, Array.size_push]
  have e1 : H1[H.size]? = some (arrV cA v.toNatClampNeg (fun _ => .null)) := by rw [← hH1, Array.getElem?_push_size, ← arrV_new]
  have o1 : ∀ q : Nat, q < H.size → H1[q]? = H[q]? := fun q hq => by rw [← hH1, Array.getElem?_push, if_neg (Nat.ne_of_lt hq)]
  obtain ⟨kB, compB, g1, g2, g3, g4⟩ := (hC.K.2 3 _ rfl).2
  have hcA : cA = eA E 3 := Option.some.inj (f1.symm.trans g4)
  subst hcA
  have hq : H.size = ad E n := by rw [hC.ad n hn, hD.2.2.2.1]
  rw [hq] at e1
  have hX := h _ _ _ rfl rfl rfl p e s m args below meth c hC H1 locs la (hD.grow (hC.ad n hn) (fun _ h => ur_ne h) (fun _ h => ur_ne h) (fun _ h => ur_ne h) (w := .inl (eA E 3, v.toNatClampNeg, .inr (.inr (.inr (.inr (fun _ => none)))))) (by rw [hs, ur_self, ur_self, ur_self]; rfl) (by show H1[ad E n]? = some (vp_cell _ _); rw [vp_cell_q]; exact e1) z1 o1) hl
  refine W.eq ?_ hX
  rw [hq]
  rfl
/-- a final field of references, in its own class's constructor -/
def FwF (T : u_T) (N i : Nat) (ty0 : Nat → FieldType) (own : String) : Prop :=
  (∀ k, k < N → parseFieldDescriptor (T k).2.2.1 = some (ty0 k)) ∧ (∀ a, a < N → ∀ b, b < N → a ≠ b → (T a).2.1 ≠ (T b).2.1) ∧ (T i).2.2.2 = true ∧ (T i).1 = own
theorem x_putF {i v : Nat} {ty0 : Nat → FieldType} (hd : decode cc pc = .ok (.putfield idx, 3)) (hf : Fk y.cls idx ci i C T N true) (hw : FwF T N i ty0 y.cls) (hy : y.name = "<init>") (hn : ∀ a, narrow (ty0 i) (.ref a) = .ref a) (hft : ∀ a, fits (ty0 i) (.ref a) = true) (hk : k < n) (hs : sh k = .inl ci)
    (h : ∀ R', R' = u2 R k i (some v) → X E l rm y cc nL ret Xt Zf (pc + 3) ls st n I L R' cl sl) : X E l rm y cc nL ret Xt Zf pc ls (.ref v :: .ref k :: st) n I L R cl sl := by
  intro p e s m args below meth c hC H locs la hD hl
  refine va_putF hC.1 hC.2.1 hC.ts hf.1 ty0 hw.1 hw.2.1 hC.own hC.K hD.1 hD.D hD.rf k (Om_obj hk hs) hf.2.1 i hf.2.2.1 (hC.wd hf.2.2.2.1) (fun _ h => h) hw.2.2.1 ((hC.nm hy).trans hy) hw.2.2.2 (hw.1 i hf.2.2.1) (hn _) (hft _) (fvs_len hf.2.2.2.2) hd (v := Value.ref (ad E v)) (fun H1 locs1 hP1 hD1 hS1 => ?_)
  rw [Om_putr hk hs hf.2.2.2.2] at hP1 hD1
  exact W_sz (fun hz => h _ rfl p e s m args below meth c hC H1 locs1 la (hD.put hP1 hD1 hS1 hz) hl)
theorem x_aastore {v N : Nat} {j : Int32} (hd : decode cc pc = .ok (.aastore, 1)) (hk : k < n) (hs : sh k = .inr (3, N)) (hj : vp_in j N) (hv : v < n) (hsv : sh v = .inl 2)
    (h : ∀ R', R' = u2 R k (ix j) (some v) → X E l rm y cc nL ret Xt Zf (pc + 1) ls st n I L R' cl sl) : X E l rm y cc nL ret Xt Zf pc ls (.ref v :: .int j :: .ref k :: st) n I L R cl sl := by
  intro p e s m args below meth c hC H locs la hD hl
  refine va_astq (r := (RX2, TX2, 19)) hC.1 hC.2.1 hC.K hD.1 hD.D hD.rf k 3 v 2 (Om_arr3 hk hs) rfl (Om_obj hv hsv) rfl hj hd (fun H1 locs1 hP1 hD1 hS1 => ?_)
  rw [Om_put3 hk hs] at hP1 hD1
  exact W_sz (fun hz => h _ rfl p e s m args below meth c hC H1 locs1 la (hD.put hP1 hD1 hS1 hz) hl)
theorem x_objInit (hd : decode cc pc = .ok (.invokespecial idx, 3)) (hlk : Cond.methodLink y.cls idx objectInit ∈ gt) (hin : Cond.instanceMethod objectInit ∈ gt) (hco : Cond.code objectInit ⟨#[0xb1]⟩ 1 none ∈ gt) (hR : 1 ≤ rm.frames ∧ (st.map fun v => v.category).sum + 12 ≤ rm.locals)
    (h : X E l rm y cc nL ret Xt Zf (pc + 3) ls st n I L R cl sl) : X E l rm y cc nL ret Xt Zf pc ls (.ref k :: st) n I L R cl sl := by
  intro p e s m args below meth c hC H locs la hD hl
  refine W.objInit hC.1 hC.2.1 hC.own (hC.wd hlk) (hC.wd hin) (hC.wd hco) rfl (by rw [hC.2.2.2.1]; exact hl.1) rfl hd hR.1 (by
    have h1 := hR.2
    have h2 := tv_cats E st
    show 2 * 0 + _ + 12 ≤ _
    omega) ?_
  exact h p e s m args below meth c hC H locs la hD hl
/-- a constructor of a class of ours, called by new -/
theorem x_callI (av : List Value) (hM : MX E l rm' y' cc' nL' none (.ref k :: av) n I L R Q') (hd : decode cc pc = .ok (.invokespecial idx, 3)) (hlk : Cond.methodLink y.cls idx y' ∈ gt) (hc : Cal y' cc' nL' none na) (hi : Cond.instanceMethod y' ∈ gt) (hy : y'.name = "<init>") (hn : av.length = na) (hst : sk = av.reverse ++ .ref k :: st) (hw : (st.map fun v => v.category).sum ≤ 8) (hR : (rm'.frames + 1 ≤ rm.frames ∧ 8 + (nL' + 11) + rm'.locals ≤ rm.locals) ∧ cl + rm'.cells ≤ rm.cells ∧ sl + rm'.slots ≤ rm.slots)
    (h : ∀ v n' I' L' R', Q' v n' I' L' R' → X E l rm y cc nL ret Xt Zf (pc + 3) ls (v.toList ++ st) n' I' L' R' (cl + rm'.cells) (sl + rm'.slots)) : X E l rm y cc nL ret Xt Zf pc ls sk n I L R cl sl := by
  intro p e s m args below meth c hC H locs la hD hl
  subst hst
  exact x_back hC hD hl (va_runI (As := av.map (tv E)) (b := ad E k) ⟨hC.1, hC.2.1, hC.2.2.2.1, hC.own, hC.ts⟩ hM ⟨x_cb hC.ts hlk hc hR.1, hy, hC.wd hi⟩ ⟨BX_blind, BX_pre hC hD _⟩ rfl (by rw [List.length_map]; exact hn) hl.1 (by simp [tv]) (lv_room (by rw [tv_cats]; exact hw)) hd hR.2) h
theorem x_callIN {host : String} (av : List Value) (hM : MX E l rm' y' cc' nL' none (.ref k :: av) n I L R Q') (hd : decode cc pc = .ok (.invokespecial idx, 3)) (hlk : Cond.methodLinkNest y.cls idx y' host ∈ lw_tbl) (hc : Cal y' cc' nL' none na) (hi : Cond.instanceMethod y' ∈ gt) (hy : y'.name = "<init>") (hn : av.length = na) (hst : sk = av.reverse ++ .ref k :: st) (hw : (st.map fun v => v.category).sum ≤ 8) (hR : (rm'.frames + 1 ≤ rm.frames ∧ 8 + (nL' + 11) + rm'.locals ≤ rm.locals) ∧ cl + rm'.cells ≤ rm.cells ∧ sl + rm'.slots ≤ rm.slots)
    (h : ∀ v n' I' L' R', Q' v n' I' L' R' → X E l rm y cc nL ret Xt Zf (pc + 3) ls (v.toList ++ st) n' I' L' R' (cl + rm'.cells) (sl + rm'.slots)) : X E l rm y cc nL ret Xt Zf pc ls sk n I L R cl sl := by
  intro p e s m args below meth c hC H locs la hD hl
  subst hst
  exact x_back hC hD hl (va_runIN (As := av.map (tv E)) (b := ad E k) ⟨hC.1, hC.2.1, hC.2.2.2.1, hC.own, hC.ts⟩ hM ⟨x_cn hC.ts (hC.so.2.2.2.2.2.1 _ _ _ _ hlk) hc hR.1, hy, hC.wd hi⟩ ⟨BX_blind, BX_pre hC hD _⟩ rfl (by rw [List.length_map]; exact hn) hl.1 (by simp [tv]) (lv_room (by rw [tv_cats]; exact hw)) hd hR.2) h
end CT
