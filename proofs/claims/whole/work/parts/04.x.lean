theorem x_iconst {E : Ev} {l : Launch} {rm : Room} {y : MethodName} {cc : ByteArray} {nL : Nat} {ret : Option FieldType} {Xt : Array Value → State → Prop} {Zf : List Frame → Array Value → State → State → Prop} {pc : Nat} {ls : List (Nat × Value)} {st : List Value} {n : Nat} {I : MI} {L : ML} {R : MR} {cl sl : Nat} {k : Int} {v : Int32} (hd : decode cc pc = .ok (.iconst k, 1)) (hv : Int32.ofInt k = v) (h : X E l rm y cc nL ret Xt Zf (pc + 1) ls (.int v :: st) (n) (I) (L) (R) (cl) (sl)) : X E l rm y cc nL ret Xt Zf (pc) ls (st) (n) (I) (L) (R) (cl) (sl) := by
  intro p e s m args below meth c hC H locs la hD hl
  exact lv_iconst hC.1 hC.2.1 hd hv (h p e s m args below meth c hC H locs la hD hl)

theorem x_bipush {E : Ev} {l : Launch} {rm : Room} {y : MethodName} {cc : ByteArray} {nL : Nat} {ret : Option FieldType} {Xt : Array Value → State → Prop} {Zf : List Frame → Array Value → State → State → Prop} {pc : Nat} {ls : List (Nat × Value)} {st : List Value} {n : Nat} {I : MI} {L : ML} {R : MR} {cl sl : Nat} {k : Int} {v : Int32} (hd : decode cc pc = .ok (.bipush k, 2)) (hv : (Int8.ofInt k).toInt32 = v) (h : X E l rm y cc nL ret Xt Zf (pc + 2) ls (.int v :: st) (n) (I) (L) (R) (cl) (sl)) : X E l rm y cc nL ret Xt Zf (pc) ls (st) (n) (I) (L) (R) (cl) (sl) := by
  intro p e s m args below meth c hC H locs la hD hl
  exact lv_bipush hC.1 hC.2.1 hd hv (h p e s m args below meth c hC H locs la hD hl)

theorem x_sipush {E : Ev} {l : Launch} {rm : Room} {y : MethodName} {cc : ByteArray} {nL : Nat} {ret : Option FieldType} {Xt : Array Value → State → Prop} {Zf : List Frame → Array Value → State → State → Prop} {pc : Nat} {ls : List (Nat × Value)} {st : List Value} {n : Nat} {I : MI} {L : ML} {R : MR} {cl sl : Nat} {k : Int} {v : Int32} (hd : decode cc pc = .ok (.sipush k, 3)) (hv : (Int16.ofInt k).toInt32 = v) (h : X E l rm y cc nL ret Xt Zf (pc + 3) ls (.int v :: st) (n) (I) (L) (R) (cl) (sl)) : X E l rm y cc nL ret Xt Zf (pc) ls (st) (n) (I) (L) (R) (cl) (sl) := by
  intro p e s m args below meth c hC H locs la hD hl
  exact lv_sipush hC.1 hC.2.1 hd hv (h p e s m args below meth c hC H locs la hD hl)

theorem x_lconst {E : Ev} {l : Launch} {rm : Room} {y : MethodName} {cc : ByteArray} {nL : Nat} {ret : Option FieldType} {Xt : Array Value → State → Prop} {Zf : List Frame → Array Value → State → State → Prop} {pc : Nat} {ls : List (Nat × Value)} {st : List Value} {n : Nat} {I : MI} {L : ML} {R : MR} {cl sl : Nat} {k : Fin 2} {v : Int64} (hd : decode cc pc = .ok (.lconst k, 1)) (hv : Int64.ofNat (k : Nat) = v) (h : X E l rm y cc nL ret Xt Zf (pc + 1) ls (.long v :: st) (n) (I) (L) (R) (cl) (sl)) : X E l rm y cc nL ret Xt Zf (pc) ls (st) (n) (I) (L) (R) (cl) (sl) := by
  intro p e s m args below meth c hC H locs la hD hl
  exact lv_lconst hC.1 hC.2.1 hd hv (h p e s m args below meth c hC H locs la hD hl)

theorem x_ldc {E : Ev} {l : Launch} {rm : Room} {y : MethodName} {cc : ByteArray} {nL : Nat} {ret : Option FieldType} {Xt : Array Value → State → Prop} {Zf : List Frame → Array Value → State → State → Prop} {pc : Nat} {ls : List (Nat × Value)} {st : List Value} {n : Nat} {I : MI} {L : ML} {R : MR} {cl sl : Nat} {k : Nat} {v : Int32} (hd : decode cc pc = .ok (.ldc k, 2)) (hw : Cond.constant y.cls k v ∈ gt) (h : X E l rm y cc nL ret Xt Zf (pc + 2) ls (.int v :: st) (n) (I) (L) (R) (cl) (sl)) : X E l rm y cc nL ret Xt Zf (pc) ls (st) (n) (I) (L) (R) (cl) (sl) := by
  intro p e s m args below meth c hC H locs la hD hl
  exact lv_ldc hC.1 hC.2.1 hC.own (hC.wd hw) hd (h p e s m args below meth c hC H locs la hD hl)

theorem x_ldcw {E : Ev} {l : Launch} {rm : Room} {y : MethodName} {cc : ByteArray} {nL : Nat} {ret : Option FieldType} {Xt : Array Value → State → Prop} {Zf : List Frame → Array Value → State → State → Prop} {pc : Nat} {ls : List (Nat × Value)} {st : List Value} {n : Nat} {I : MI} {L : ML} {R : MR} {cl sl : Nat} {k : Nat} {v : Int32} (hd : decode cc pc = .ok (.ldc_w k, 3)) (hw : Cond.constant y.cls k v ∈ gt) (h : X E l rm y cc nL ret Xt Zf (pc + 3) ls (.int v :: st) (n) (I) (L) (R) (cl) (sl)) : X E l rm y cc nL ret Xt Zf (pc) ls (st) (n) (I) (L) (R) (cl) (sl) := by
  intro p e s m args below meth c hC H locs la hD hl
  exact lv_ldcw hC.1 hC.2.1 hC.own (hC.wd hw) hd (h p e s m args below meth c hC H locs la hD hl)

theorem x_ldc2 {E : Ev} {l : Launch} {rm : Room} {y : MethodName} {cc : ByteArray} {nL : Nat} {ret : Option FieldType} {Xt : Array Value → State → Prop} {Zf : List Frame → Array Value → State → State → Prop} {pc : Nat} {ls : List (Nat × Value)} {st : List Value} {n : Nat} {I : MI} {L : ML} {R : MR} {cl sl : Nat} {k : Nat} {v : Int64} (hd : decode cc pc = .ok (.ldc2_w k, 3)) (hw : Cond.constantLong y.cls k v ∈ gt) (h : X E l rm y cc nL ret Xt Zf (pc + 3) ls (.long v :: st) (n) (I) (L) (R) (cl) (sl)) : X E l rm y cc nL ret Xt Zf (pc) ls (st) (n) (I) (L) (R) (cl) (sl) := by
  intro p e s m args below meth c hC H locs la hD hl
  exact lv_ldc2 hC.1 hC.2.1 hC.own (hC.wd hw) hd (h p e s m args below meth c hC H locs la hD hl)

theorem x_iload {E : Ev} {l : Launch} {rm : Room} {y : MethodName} {cc : ByteArray} {nL : Nat} {ret : Option FieldType} {Xt : Array Value → State → Prop} {Zf : List Frame → Array Value → State → State → Prop} {pc : Nat} {ls : List (Nat × Value)} {st : List Value} {n : Nat} {I : MI} {L : ML} {R : MR} {cl sl : Nat} {k : Nat} {v : Int32} (hd : decode cc pc = .ok (.iload k, 2)) (hv : lk ls k = some (.int v)) (h : X E l rm y cc nL ret Xt Zf (pc + 2) ls (.int v :: st) (n) (I) (L) (R) (cl) (sl)) : X E l rm y cc nL ret Xt Zf (pc) ls (st) (n) (I) (L) (R) (cl) (sl) := by
  intro p e s m args below meth c hC H locs la hD hl
  exact lv_iload hC.1 hC.2.1 hd (lk_at hl hv) (h p e s m args below meth c hC H locs la hD hl)

theorem x_iload_n {E : Ev} {l : Launch} {rm : Room} {y : MethodName} {cc : ByteArray} {nL : Nat} {ret : Option FieldType} {Xt : Array Value → State → Prop} {Zf : List Frame → Array Value → State → State → Prop} {pc : Nat} {ls : List (Nat × Value)} {st : List Value} {n : Nat} {I : MI} {L : ML} {R : MR} {cl sl : Nat} {k : Fin 4} {v : Int32} (hd : decode cc pc = .ok (.iload_n k, 1)) (hv : lk ls k = some (.int v)) (h : X E l rm y cc nL ret Xt Zf (pc + 1) ls (.int v :: st) (n) (I) (L) (R) (cl) (sl)) : X E l rm y cc nL ret Xt Zf (pc) ls (st) (n) (I) (L) (R) (cl) (sl) := by
  intro p e s m args below meth c hC H locs la hD hl
  exact lv_iload_n hC.1 hC.2.1 hd rfl (lk_at hl hv) (h p e s m args below meth c hC H locs la hD hl)

theorem x_lload {E : Ev} {l : Launch} {rm : Room} {y : MethodName} {cc : ByteArray} {nL : Nat} {ret : Option FieldType} {Xt : Array Value → State → Prop} {Zf : List Frame → Array Value → State → State → Prop} {pc : Nat} {ls : List (Nat × Value)} {st : List Value} {n : Nat} {I : MI} {L : ML} {R : MR} {cl sl : Nat} {k : Nat} {v : Int64} (hd : decode cc pc = .ok (.lload k, 2)) (hv : lk ls k = some (.long v)) (h : X E l rm y cc nL ret Xt Zf (pc + 2) ls (.long v :: st) (n) (I) (L) (R) (cl) (sl)) : X E l rm y cc nL ret Xt Zf (pc) ls (st) (n) (I) (L) (R) (cl) (sl) := by
  intro p e s m args below meth c hC H locs la hD hl
  exact lv_lload hC.1 hC.2.1 hd (lk_at hl hv) (h p e s m args below meth c hC H locs la hD hl)

theorem x_lload_n {E : Ev} {l : Launch} {rm : Room} {y : MethodName} {cc : ByteArray} {nL : Nat} {ret : Option FieldType} {Xt : Array Value → State → Prop} {Zf : List Frame → Array Value → State → State → Prop} {pc : Nat} {ls : List (Nat × Value)} {st : List Value} {n : Nat} {I : MI} {L : ML} {R : MR} {cl sl : Nat} {k : Fin 4} {v : Int64} (hd : decode cc pc = .ok (.lload_n k, 1)) (hv : lk ls k = some (.long v)) (h : X E l rm y cc nL ret Xt Zf (pc + 1) ls (.long v :: st) (n) (I) (L) (R) (cl) (sl)) : X E l rm y cc nL ret Xt Zf (pc) ls (st) (n) (I) (L) (R) (cl) (sl) := by
  intro p e s m args below meth c hC H locs la hD hl
  exact lv_lload_n hC.1 hC.2.1 hd rfl (lk_at hl hv) (h p e s m args below meth c hC H locs la hD hl)

theorem x_aload {E : Ev} {l : Launch} {rm : Room} {y : MethodName} {cc : ByteArray} {nL : Nat} {ret : Option FieldType} {Xt : Array Value → State → Prop} {Zf : List Frame → Array Value → State → State → Prop} {pc : Nat} {ls : List (Nat × Value)} {st : List Value} {n : Nat} {I : MI} {L : ML} {R : MR} {cl sl : Nat} {k : Nat} {v : Nat} (hd : decode cc pc = .ok (.aload k, 2)) (hv : lk ls k = some (.ref v)) (h : X E l rm y cc nL ret Xt Zf (pc + 2) ls (.ref v :: st) (n) (I) (L) (R) (cl) (sl)) : X E l rm y cc nL ret Xt Zf (pc) ls (st) (n) (I) (L) (R) (cl) (sl) := by
  intro p e s m args below meth c hC H locs la hD hl
  exact lv_aload hC.1 hC.2.1 hd (lk_at hl hv) (h p e s m args below meth c hC H locs la hD hl)

theorem x_aload_n {E : Ev} {l : Launch} {rm : Room} {y : MethodName} {cc : ByteArray} {nL : Nat} {ret : Option FieldType} {Xt : Array Value → State → Prop} {Zf : List Frame → Array Value → State → State → Prop} {pc : Nat} {ls : List (Nat × Value)} {st : List Value} {n : Nat} {I : MI} {L : ML} {R : MR} {cl sl : Nat} {k : Fin 4} {v : Nat} (hd : decode cc pc = .ok (.aload_n k, 1)) (hv : lk ls k = some (.ref v)) (h : X E l rm y cc nL ret Xt Zf (pc + 1) ls (.ref v :: st) (n) (I) (L) (R) (cl) (sl)) : X E l rm y cc nL ret Xt Zf (pc) ls (st) (n) (I) (L) (R) (cl) (sl) := by
  intro p e s m args below meth c hC H locs la hD hl
  exact lv_aload_n hC.1 hC.2.1 hd rfl (lk_at hl hv) (h p e s m args below meth c hC H locs la hD hl)

theorem x_istore {E : Ev} {l : Launch} {rm : Room} {y : MethodName} {cc : ByteArray} {nL : Nat} {ret : Option FieldType} {Xt : Array Value → State → Prop} {Zf : List Frame → Array Value → State → State → Prop} {pc : Nat} {ls : List (Nat × Value)} {st : List Value} {n : Nat} {I : MI} {L : ML} {R : MR} {cl sl : Nat} {k : Nat} {v : Int32} {ls' : List (Nat × Value)} (hd : decode cc pc = .ok (.istore k, 2)) (hk : k < nL) (hl' : ls1 k (.int v) ls = ls') (h : X E l rm y cc nL ret Xt Zf (pc + 2) ls' (st) (n) (I) (L) (R) (cl) (sl)) : X E l rm y cc nL ret Xt Zf (pc) ls (.int v :: st) (n) (I) (L) (R) (cl) (sl) := by
  intro p e s m args below meth c hC H locs la hD hl
  exact lv_istore hC.1 hC.2.1 hd hl hk rfl (fun la hl => h p e s m args below meth c hC H locs la hD (ls1_tq hl' hl))

theorem x_istore_n {E : Ev} {l : Launch} {rm : Room} {y : MethodName} {cc : ByteArray} {nL : Nat} {ret : Option FieldType} {Xt : Array Value → State → Prop} {Zf : List Frame → Array Value → State → State → Prop} {pc : Nat} {ls : List (Nat × Value)} {st : List Value} {n : Nat} {I : MI} {L : ML} {R : MR} {cl sl : Nat} {k : Fin 4} {v : Int32} {ls' : List (Nat × Value)} (hd : decode cc pc = .ok (.istore_n k, 1)) (hk : (k : Nat) < nL) (hl' : ls1 k (.int v) ls = ls') (h : X E l rm y cc nL ret Xt Zf (pc + 1) ls' (st) (n) (I) (L) (R) (cl) (sl)) : X E l rm y cc nL ret Xt Zf (pc) ls (.int v :: st) (n) (I) (L) (R) (cl) (sl) := by
  intro p e s m args below meth c hC H locs la hD hl
  exact lv_istore_n hC.1 hC.2.1 hd rfl hl hk rfl (fun la hl => h p e s m args below meth c hC H locs la hD (ls1_tq hl' hl))

theorem x_lstore {E : Ev} {l : Launch} {rm : Room} {y : MethodName} {cc : ByteArray} {nL : Nat} {ret : Option FieldType} {Xt : Array Value → State → Prop} {Zf : List Frame → Array Value → State → State → Prop} {pc : Nat} {ls : List (Nat × Value)} {st : List Value} {n : Nat} {I : MI} {L : ML} {R : MR} {cl sl : Nat} {k : Nat} {v : Int64} {ls' : List (Nat × Value)} (hd : decode cc pc = .ok (.lstore k, 2)) (hk : k + 1 < nL) (hl' : ls2 k (.long v) ls = ls') (h : X E l rm y cc nL ret Xt Zf (pc + 2) ls' (st) (n) (I) (L) (R) (cl) (sl)) : X E l rm y cc nL ret Xt Zf (pc) ls (.long v :: st) (n) (I) (L) (R) (cl) (sl) := by
  intro p e s m args below meth c hC H locs la hD hl
  exact lv_lstore hC.1 hC.2.1 hd hl hk rfl (fun la hl => h p e s m args below meth c hC H locs la hD (ls2_tq hl' hl))

theorem x_lstore_n {E : Ev} {l : Launch} {rm : Room} {y : MethodName} {cc : ByteArray} {nL : Nat} {ret : Option FieldType} {Xt : Array Value → State → Prop} {Zf : List Frame → Array Value → State → State → Prop} {pc : Nat} {ls : List (Nat × Value)} {st : List Value} {n : Nat} {I : MI} {L : ML} {R : MR} {cl sl : Nat} {k : Fin 4} {v : Int64} {ls' : List (Nat × Value)} (hd : decode cc pc = .ok (.lstore_n k, 1)) (hk : (k : Nat) + 1 < nL) (hl' : ls2 k (.long v) ls = ls') (h : X E l rm y cc nL ret Xt Zf (pc + 1) ls' (st) (n) (I) (L) (R) (cl) (sl)) : X E l rm y cc nL ret Xt Zf (pc) ls (.long v :: st) (n) (I) (L) (R) (cl) (sl) := by
  intro p e s m args below meth c hC H locs la hD hl
  exact lv_lstore_n hC.1 hC.2.1 hd rfl hl hk rfl (fun la hl => h p e s m args below meth c hC H locs la hD (ls2_tq hl' hl))

theorem x_astore {E : Ev} {l : Launch} {rm : Room} {y : MethodName} {cc : ByteArray} {nL : Nat} {ret : Option FieldType} {Xt : Array Value → State → Prop} {Zf : List Frame → Array Value → State → State → Prop} {pc : Nat} {ls : List (Nat × Value)} {st : List Value} {n : Nat} {I : MI} {L : ML} {R : MR} {cl sl : Nat} {k : Nat} {v : Nat} {ls' : List (Nat × Value)} (hd : decode cc pc = .ok (.astore k, 2)) (hk : k < nL) (hl' : ls1 k (.ref v) ls = ls') (h : X E l rm y cc nL ret Xt Zf (pc + 2) ls' (st) (n) (I) (L) (R) (cl) (sl)) : X E l rm y cc nL ret Xt Zf (pc) ls (.ref v :: st) (n) (I) (L) (R) (cl) (sl) := by
  intro p e s m args below meth c hC H locs la hD hl
  exact lv_astore hC.1 hC.2.1 hd hl hk rfl (fun la hl => h p e s m args below meth c hC H locs la hD (ls1_tq hl' hl))

theorem x_astore_n {E : Ev} {l : Launch} {rm : Room} {y : MethodName} {cc : ByteArray} {nL : Nat} {ret : Option FieldType} {Xt : Array Value → State → Prop} {Zf : List Frame → Array Value → State → State → Prop} {pc : Nat} {ls : List (Nat × Value)} {st : List Value} {n : Nat} {I : MI} {L : ML} {R : MR} {cl sl : Nat} {k : Fin 4} {v : Nat} {ls' : List (Nat × Value)} (hd : decode cc pc = .ok (.astore_n k, 1)) (hk : (k : Nat) < nL) (hl' : ls1 k (.ref v) ls = ls') (h : X E l rm y cc nL ret Xt Zf (pc + 1) ls' (st) (n) (I) (L) (R) (cl) (sl)) : X E l rm y cc nL ret Xt Zf (pc) ls (.ref v :: st) (n) (I) (L) (R) (cl) (sl) := by
  intro p e s m args below meth c hC H locs la hD hl
  exact lv_astore_n hC.1 hC.2.1 hd rfl hl hk rfl (fun la hl => h p e s m args below meth c hC H locs la hD (ls1_tq hl' hl))

theorem x_iinc {E : Ev} {l : Launch} {rm : Room} {y : MethodName} {cc : ByteArray} {nL : Nat} {ret : Option FieldType} {Xt : Array Value → State → Prop} {Zf : List Frame → Array Value → State → State → Prop} {pc : Nat} {ls : List (Nat × Value)} {st : List Value} {n : Nat} {I : MI} {L : ML} {R : MR} {cl sl : Nat} {k : Nat} {a : Int} {x v : Int32} {ls' : List (Nat × Value)} (hd : decode cc pc = .ok (.iinc k a, 3)) (hx : lk ls k = some (.int x)) (hv : x + Int32.ofInt a = v) (hk : k < nL) (hl' : ls1 k (.int v) ls = ls') (h : X E l rm y cc nL ret Xt Zf (pc + 3) ls' (st) (n) (I) (L) (R) (cl) (sl)) : X E l rm y cc nL ret Xt Zf (pc) ls (st) (n) (I) (L) (R) (cl) (sl) := by
  intro p e s m args below meth c hC H locs la hD hl
  obtain ⟨j, hj⟩ := lk_ix hx (E := E)
  exact lv_iinc hC.1 hC.2.1 hd hl hj hv hk rfl (fun la hl => h p e s m args below meth c hC H locs la hD (ls1_tq hl' hl))

theorem x_iadd {E : Ev} {l : Launch} {rm : Room} {y : MethodName} {cc : ByteArray} {nL : Nat} {ret : Option FieldType} {Xt : Array Value → State → Prop} {Zf : List Frame → Array Value → State → State → Prop} {pc : Nat} {ls : List (Nat × Value)} {st : List Value} {n : Nat} {I : MI} {L : ML} {R : MR} {cl sl : Nat} {x z : Int32} (hd : decode cc pc = .ok (.iadd, 1)) (h : X E l rm y cc nL ret Xt Zf (pc + 1) ls (.int (x + z) :: st) (n) (I) (L) (R) (cl) (sl)) : X E l rm y cc nL ret Xt Zf (pc) ls (.int z :: .int x :: st) (n) (I) (L) (R) (cl) (sl) := by
  intro p e s m args below meth c hC H locs la hD hl
  exact lv_iadd hC.1 hC.2.1 hd (h p e s m args below meth c hC H locs la hD hl)

theorem x_isub {E : Ev} {l : Launch} {rm : Room} {y : MethodName} {cc : ByteArray} {nL : Nat} {ret : Option FieldType} {Xt : Array Value → State → Prop} {Zf : List Frame → Array Value → State → State → Prop} {pc : Nat} {ls : List (Nat × Value)} {st : List Value} {n : Nat} {I : MI} {L : ML} {R : MR} {cl sl : Nat} {x z : Int32} (hd : decode cc pc = .ok (.isub, 1)) (h : X E l rm y cc nL ret Xt Zf (pc + 1) ls (.int (x - z) :: st) (n) (I) (L) (R) (cl) (sl)) : X E l rm y cc nL ret Xt Zf (pc) ls (.int z :: .int x :: st) (n) (I) (L) (R) (cl) (sl) := by
  intro p e s m args below meth c hC H locs la hD hl
  exact lv_isub hC.1 hC.2.1 hd (h p e s m args below meth c hC H locs la hD hl)

theorem x_imul {E : Ev} {l : Launch} {rm : Room} {y : MethodName} {cc : ByteArray} {nL : Nat} {ret : Option FieldType} {Xt : Array Value → State → Prop} {Zf : List Frame → Array Value → State → State → Prop} {pc : Nat} {ls : List (Nat × Value)} {st : List Value} {n : Nat} {I : MI} {L : ML} {R : MR} {cl sl : Nat} {x z : Int32} (hd : decode cc pc = .ok (.imul, 1)) (h : X E l rm y cc nL ret Xt Zf (pc + 1) ls (.int (x * z) :: st) (n) (I) (L) (R) (cl) (sl)) : X E l rm y cc nL ret Xt Zf (pc) ls (.int z :: .int x :: st) (n) (I) (L) (R) (cl) (sl) := by
  intro p e s m args below meth c hC H locs la hD hl
  exact lv_imul hC.1 hC.2.1 hd (h p e s m args below meth c hC H locs la hD hl)

theorem x_iand {E : Ev} {l : Launch} {rm : Room} {y : MethodName} {cc : ByteArray} {nL : Nat} {ret : Option FieldType} {Xt : Array Value → State → Prop} {Zf : List Frame → Array Value → State → State → Prop} {pc : Nat} {ls : List (Nat × Value)} {st : List Value} {n : Nat} {I : MI} {L : ML} {R : MR} {cl sl : Nat} {x z : Int32} (hd : decode cc pc = .ok (.iand, 1)) (h : X E l rm y cc nL ret Xt Zf (pc + 1) ls (.int (x &&& z) :: st) (n) (I) (L) (R) (cl) (sl)) : X E l rm y cc nL ret Xt Zf (pc) ls (.int z :: .int x :: st) (n) (I) (L) (R) (cl) (sl) := by
  intro p e s m args below meth c hC H locs la hD hl
  exact lv_iand hC.1 hC.2.1 hd (h p e s m args below meth c hC H locs la hD hl)

theorem x_ior {E : Ev} {l : Launch} {rm : Room} {y : MethodName} {cc : ByteArray} {nL : Nat} {ret : Option FieldType} {Xt : Array Value → State → Prop} {Zf : List Frame → Array Value → State → State → Prop} {pc : Nat} {ls : List (Nat × Value)} {st : List Value} {n : Nat} {I : MI} {L : ML} {R : MR} {cl sl : Nat} {x z : Int32} (hd : decode cc pc = .ok (.ior, 1)) (h : X E l rm y cc nL ret Xt Zf (pc + 1) ls (.int (x ||| z) :: st) (n) (I) (L) (R) (cl) (sl)) : X E l rm y cc nL ret Xt Zf (pc) ls (.int z :: .int x :: st) (n) (I) (L) (R) (cl) (sl) := by
  intro p e s m args below meth c hC H locs la hD hl
  exact lv_ior hC.1 hC.2.1 hd (h p e s m args below meth c hC H locs la hD hl)

theorem x_ishl {E : Ev} {l : Launch} {rm : Room} {y : MethodName} {cc : ByteArray} {nL : Nat} {ret : Option FieldType} {Xt : Array Value → State → Prop} {Zf : List Frame → Array Value → State → State → Prop} {pc : Nat} {ls : List (Nat × Value)} {st : List Value} {n : Nat} {I : MI} {L : ML} {R : MR} {cl sl : Nat} {x z : Int32} (hd : decode cc pc = .ok (.ishl, 1)) (h : X E l rm y cc nL ret Xt Zf (pc + 1) ls (.int (x <<< (z &&& 31)) :: st) (n) (I) (L) (R) (cl) (sl)) : X E l rm y cc nL ret Xt Zf (pc) ls (.int z :: .int x :: st) (n) (I) (L) (R) (cl) (sl) := by
  intro p e s m args below meth c hC H locs la hD hl
  exact lv_ishl hC.1 hC.2.1 hd (h p e s m args below meth c hC H locs la hD hl)

theorem x_ishr {E : Ev} {l : Launch} {rm : Room} {y : MethodName} {cc : ByteArray} {nL : Nat} {ret : Option FieldType} {Xt : Array Value → State → Prop} {Zf : List Frame → Array Value → State → State → Prop} {pc : Nat} {ls : List (Nat × Value)} {st : List Value} {n : Nat} {I : MI} {L : ML} {R : MR} {cl sl : Nat} {x z : Int32} (hd : decode cc pc = .ok (.ishr, 1)) (h : X E l rm y cc nL ret Xt Zf (pc + 1) ls (.int (x >>> (z &&& 31)) :: st) (n) (I) (L) (R) (cl) (sl)) : X E l rm y cc nL ret Xt Zf (pc) ls (.int z :: .int x :: st) (n) (I) (L) (R) (cl) (sl) := by
  intro p e s m args below meth c hC H locs la hD hl
  exact lv_ishr hC.1 hC.2.1 hd (h p e s m args below meth c hC H locs la hD hl)

theorem x_iushr {E : Ev} {l : Launch} {rm : Room} {y : MethodName} {cc : ByteArray} {nL : Nat} {ret : Option FieldType} {Xt : Array Value → State → Prop} {Zf : List Frame → Array Value → State → State → Prop} {pc : Nat} {ls : List (Nat × Value)} {st : List Value} {n : Nat} {I : MI} {L : ML} {R : MR} {cl sl : Nat} {x z : Int32} (hd : decode cc pc = .ok (.iushr, 1)) (h : X E l rm y cc nL ret Xt Zf (pc + 1) ls (.int (usr x z) :: st) (n) (I) (L) (R) (cl) (sl)) : X E l rm y cc nL ret Xt Zf (pc) ls (.int z :: .int x :: st) (n) (I) (L) (R) (cl) (sl) := by
  intro p e s m args below meth c hC H locs la hD hl
  exact lv_iushr hC.1 hC.2.1 hd rfl (h p e s m args below meth c hC H locs la hD hl)

theorem x_idiv {E : Ev} {l : Launch} {rm : Room} {y : MethodName} {cc : ByteArray} {nL : Nat} {ret : Option FieldType} {Xt : Array Value → State → Prop} {Zf : List Frame → Array Value → State → State → Prop} {pc : Nat} {ls : List (Nat × Value)} {st : List Value} {n : Nat} {I : MI} {L : ML} {R : MR} {cl sl : Nat} {x z : Int32} (hd : decode cc pc = .ok (.idiv, 1)) (hz : ¬ z = 0) (h : X E l rm y cc nL ret Xt Zf (pc + 1) ls (.int (x / z) :: st) (n) (I) (L) (R) (cl) (sl)) : X E l rm y cc nL ret Xt Zf (pc) ls (.int z :: .int x :: st) (n) (I) (L) (R) (cl) (sl) := by
  intro p e s m args below meth c hC H locs la hD hl
  exact lv_idiv hC.1 hC.2.1 hd hz (h p e s m args below meth c hC H locs la hD hl)

theorem x_irem {E : Ev} {l : Launch} {rm : Room} {y : MethodName} {cc : ByteArray} {nL : Nat} {ret : Option FieldType} {Xt : Array Value → State → Prop} {Zf : List Frame → Array Value → State → State → Prop} {pc : Nat} {ls : List (Nat × Value)} {st : List Value} {n : Nat} {I : MI} {L : ML} {R : MR} {cl sl : Nat} {x z : Int32} (hd : decode cc pc = .ok (.irem, 1)) (hz : ¬ z = 0) (h : X E l rm y cc nL ret Xt Zf (pc + 1) ls (.int (x - x / z * z) :: st) (n) (I) (L) (R) (cl) (sl)) : X E l rm y cc nL ret Xt Zf (pc) ls (.int z :: .int x :: st) (n) (I) (L) (R) (cl) (sl) := by
  intro p e s m args below meth c hC H locs la hD hl
  exact lv_irem hC.1 hC.2.1 hd hz (h p e s m args below meth c hC H locs la hD hl)

theorem x_ladd {E : Ev} {l : Launch} {rm : Room} {y : MethodName} {cc : ByteArray} {nL : Nat} {ret : Option FieldType} {Xt : Array Value → State → Prop} {Zf : List Frame → Array Value → State → State → Prop} {pc : Nat} {ls : List (Nat × Value)} {st : List Value} {n : Nat} {I : MI} {L : ML} {R : MR} {cl sl : Nat} {x z : Int64} (hd : decode cc pc = .ok (.ladd, 1)) (h : X E l rm y cc nL ret Xt Zf (pc + 1) ls (.long (x + z) :: st) (n) (I) (L) (R) (cl) (sl)) : X E l rm y cc nL ret Xt Zf (pc) ls (.long z :: .long x :: st) (n) (I) (L) (R) (cl) (sl) := by
  intro p e s m args below meth c hC H locs la hD hl
  exact lv_ladd hC.1 hC.2.1 hd (h p e s m args below meth c hC H locs la hD hl)

theorem x_lsub {E : Ev} {l : Launch} {rm : Room} {y : MethodName} {cc : ByteArray} {nL : Nat} {ret : Option FieldType} {Xt : Array Value → State → Prop} {Zf : List Frame → Array Value → State → State → Prop} {pc : Nat} {ls : List (Nat × Value)} {st : List Value} {n : Nat} {I : MI} {L : ML} {R : MR} {cl sl : Nat} {x z : Int64} (hd : decode cc pc = .ok (.lsub, 1)) (h : X E l rm y cc nL ret Xt Zf (pc + 1) ls (.long (x - z) :: st) (n) (I) (L) (R) (cl) (sl)) : X E l rm y cc nL ret Xt Zf (pc) ls (.long z :: .long x :: st) (n) (I) (L) (R) (cl) (sl) := by
  intro p e s m args below meth c hC H locs la hD hl
  exact lv_lsub hC.1 hC.2.1 hd (h p e s m args below meth c hC H locs la hD hl)

theorem x_lmul {E : Ev} {l : Launch} {rm : Room} {y : MethodName} {cc : ByteArray} {nL : Nat} {ret : Option FieldType} {Xt : Array Value → State → Prop} {Zf : List Frame → Array Value → State → State → Prop} {pc : Nat} {ls : List (Nat × Value)} {st : List Value} {n : Nat} {I : MI} {L : ML} {R : MR} {cl sl : Nat} {x z : Int64} (hd : decode cc pc = .ok (.lmul, 1)) (h : X E l rm y cc nL ret Xt Zf (pc + 1) ls (.long (x * z) :: st) (n) (I) (L) (R) (cl) (sl)) : X E l rm y cc nL ret Xt Zf (pc) ls (.long z :: .long x :: st) (n) (I) (L) (R) (cl) (sl) := by
  intro p e s m args below meth c hC H locs la hD hl
  exact lv_lmul hC.1 hC.2.1 hd (h p e s m args below meth c hC H locs la hD hl)

theorem x_land {E : Ev} {l : Launch} {rm : Room} {y : MethodName} {cc : ByteArray} {nL : Nat} {ret : Option FieldType} {Xt : Array Value → State → Prop} {Zf : List Frame → Array Value → State → State → Prop} {pc : Nat} {ls : List (Nat × Value)} {st : List Value} {n : Nat} {I : MI} {L : ML} {R : MR} {cl sl : Nat} {x z : Int64} (hd : decode cc pc = .ok (.land, 1)) (h : X E l rm y cc nL ret Xt Zf (pc + 1) ls (.long (x &&& z) :: st) (n) (I) (L) (R) (cl) (sl)) : X E l rm y cc nL ret Xt Zf (pc) ls (.long z :: .long x :: st) (n) (I) (L) (R) (cl) (sl) := by
  intro p e s m args below meth c hC H locs la hD hl
  exact lv_land hC.1 hC.2.1 hd (h p e s m args below meth c hC H locs la hD hl)

theorem x_lor {E : Ev} {l : Launch} {rm : Room} {y : MethodName} {cc : ByteArray} {nL : Nat} {ret : Option FieldType} {Xt : Array Value → State → Prop} {Zf : List Frame → Array Value → State → State → Prop} {pc : Nat} {ls : List (Nat × Value)} {st : List Value} {n : Nat} {I : MI} {L : ML} {R : MR} {cl sl : Nat} {x z : Int64} (hd : decode cc pc = .ok (.lor, 1)) (h : X E l rm y cc nL ret Xt Zf (pc + 1) ls (.long (x ||| z) :: st) (n) (I) (L) (R) (cl) (sl)) : X E l rm y cc nL ret Xt Zf (pc) ls (.long z :: .long x :: st) (n) (I) (L) (R) (cl) (sl) := by
  intro p e s m args below meth c hC H locs la hD hl
  exact lv_lor hC.1 hC.2.1 hd (h p e s m args below meth c hC H locs la hD hl)

theorem x_ldiv {E : Ev} {l : Launch} {rm : Room} {y : MethodName} {cc : ByteArray} {nL : Nat} {ret : Option FieldType} {Xt : Array Value → State → Prop} {Zf : List Frame → Array Value → State → State → Prop} {pc : Nat} {ls : List (Nat × Value)} {st : List Value} {n : Nat} {I : MI} {L : ML} {R : MR} {cl sl : Nat} {x z : Int64} (hd : decode cc pc = .ok (.ldiv, 1)) (hz : ¬ z = 0) (h : X E l rm y cc nL ret Xt Zf (pc + 1) ls (.long (x / z) :: st) (n) (I) (L) (R) (cl) (sl)) : X E l rm y cc nL ret Xt Zf (pc) ls (.long z :: .long x :: st) (n) (I) (L) (R) (cl) (sl) := by
  intro p e s m args below meth c hC H locs la hD hl
  exact lv_ldiv hC.1 hC.2.1 hd hz (h p e s m args below meth c hC H locs la hD hl)

theorem x_lrem {E : Ev} {l : Launch} {rm : Room} {y : MethodName} {cc : ByteArray} {nL : Nat} {ret : Option FieldType} {Xt : Array Value → State → Prop} {Zf : List Frame → Array Value → State → State → Prop} {pc : Nat} {ls : List (Nat × Value)} {st : List Value} {n : Nat} {I : MI} {L : ML} {R : MR} {cl sl : Nat} {x z : Int64} (hd : decode cc pc = .ok (.lrem, 1)) (hz : ¬ z = 0) (h : X E l rm y cc nL ret Xt Zf (pc + 1) ls (.long (x - x / z * z) :: st) (n) (I) (L) (R) (cl) (sl)) : X E l rm y cc nL ret Xt Zf (pc) ls (.long z :: .long x :: st) (n) (I) (L) (R) (cl) (sl) := by
  intro p e s m args below meth c hC H locs la hD hl
  exact lv_lrem hC.1 hC.2.1 hd hz (h p e s m args below meth c hC H locs la hD hl)

theorem x_lushr {E : Ev} {l : Launch} {rm : Room} {y : MethodName} {cc : ByteArray} {nL : Nat} {ret : Option FieldType} {Xt : Array Value → State → Prop} {Zf : List Frame → Array Value → State → State → Prop} {pc : Nat} {ls : List (Nat × Value)} {st : List Value} {n : Nat} {I : MI} {L : ML} {R : MR} {cl sl : Nat} {x : Int64} {z : Int32} (hd : decode cc pc = .ok (.lushr, 1)) (h : X E l rm y cc nL ret Xt Zf (pc + 1) ls (.long (lusr x z) :: st) (n) (I) (L) (R) (cl) (sl)) : X E l rm y cc nL ret Xt Zf (pc) ls (.int z :: .long x :: st) (n) (I) (L) (R) (cl) (sl) := by
  intro p e s m args below meth c hC H locs la hD hl
  exact lv_lushr hC.1 hC.2.1 hd rfl (h p e s m args below meth c hC H locs la hD hl)

theorem x_lshl {E : Ev} {l : Launch} {rm : Room} {y : MethodName} {cc : ByteArray} {nL : Nat} {ret : Option FieldType} {Xt : Array Value → State → Prop} {Zf : List Frame → Array Value → State → State → Prop} {pc : Nat} {ls : List (Nat × Value)} {st : List Value} {n : Nat} {I : MI} {L : ML} {R : MR} {cl sl : Nat} {x : Int64} {z : Int32} (hd : decode cc pc = .ok (.lshl, 1)) (h : X E l rm y cc nL ret Xt Zf (pc + 1) ls (.long (lsl x z) :: st) (n) (I) (L) (R) (cl) (sl)) : X E l rm y cc nL ret Xt Zf (pc) ls (.int z :: .long x :: st) (n) (I) (L) (R) (cl) (sl) := by
  intro p e s m args below meth c hC H locs la hD hl
  exact lv_lshl hC.1 hC.2.1 hd rfl (h p e s m args below meth c hC H locs la hD hl)

theorem x_lcmp {E : Ev} {l : Launch} {rm : Room} {y : MethodName} {cc : ByteArray} {nL : Nat} {ret : Option FieldType} {Xt : Array Value → State → Prop} {Zf : List Frame → Array Value → State → State → Prop} {pc : Nat} {ls : List (Nat × Value)} {st : List Value} {n : Nat} {I : MI} {L : ML} {R : MR} {cl sl : Nat} {x z : Int64} (hd : decode cc pc = .ok (.lcmp, 1)) (h : X E l rm y cc nL ret Xt Zf (pc + 1) ls (.int (lg_cmp x z) :: st) (n) (I) (L) (R) (cl) (sl)) : X E l rm y cc nL ret Xt Zf (pc) ls (.long z :: .long x :: st) (n) (I) (L) (R) (cl) (sl) := by
  intro p e s m args below meth c hC H locs la hD hl
  exact W.lcmp hC.1 hC.2.1 hd (h p e s m args below meth c hC H locs la hD hl)

theorem x_i2l {E : Ev} {l : Launch} {rm : Room} {y : MethodName} {cc : ByteArray} {nL : Nat} {ret : Option FieldType} {Xt : Array Value → State → Prop} {Zf : List Frame → Array Value → State → State → Prop} {pc : Nat} {ls : List (Nat × Value)} {st : List Value} {n : Nat} {I : MI} {L : ML} {R : MR} {cl sl : Nat} {x : Int32} (hd : decode cc pc = .ok (.i2l, 1)) (h : X E l rm y cc nL ret Xt Zf (pc + 1) ls (.long x.toInt64 :: st) (n) (I) (L) (R) (cl) (sl)) : X E l rm y cc nL ret Xt Zf (pc) ls (.int x :: st) (n) (I) (L) (R) (cl) (sl) := by
  intro p e s m args below meth c hC H locs la hD hl
  exact lv_i2l hC.1 hC.2.1 hd rfl (h p e s m args below meth c hC H locs la hD hl)

theorem x_l2i {E : Ev} {l : Launch} {rm : Room} {y : MethodName} {cc : ByteArray} {nL : Nat} {ret : Option FieldType} {Xt : Array Value → State → Prop} {Zf : List Frame → Array Value → State → State → Prop} {pc : Nat} {ls : List (Nat × Value)} {st : List Value} {n : Nat} {I : MI} {L : ML} {R : MR} {cl sl : Nat} {x : Int64} (hd : decode cc pc = .ok (.l2i, 1)) (h : X E l rm y cc nL ret Xt Zf (pc + 1) ls (.int x.toInt32 :: st) (n) (I) (L) (R) (cl) (sl)) : X E l rm y cc nL ret Xt Zf (pc) ls (.long x :: st) (n) (I) (L) (R) (cl) (sl) := by
  intro p e s m args below meth c hC H locs la hD hl
  exact lv_l2i hC.1 hC.2.1 hd rfl (h p e s m args below meth c hC H locs la hD hl)

theorem x_i2b {E : Ev} {l : Launch} {rm : Room} {y : MethodName} {cc : ByteArray} {nL : Nat} {ret : Option FieldType} {Xt : Array Value → State → Prop} {Zf : List Frame → Array Value → State → State → Prop} {pc : Nat} {ls : List (Nat × Value)} {st : List Value} {n : Nat} {I : MI} {L : ML} {R : MR} {cl sl : Nat} {x : Int32} (hd : decode cc pc = .ok (.i2b, 1)) (h : X E l rm y cc nL ret Xt Zf (pc + 1) ls (.int x.toInt8.toInt32 :: st) (n) (I) (L) (R) (cl) (sl)) : X E l rm y cc nL ret Xt Zf (pc) ls (.int x :: st) (n) (I) (L) (R) (cl) (sl) := by
  intro p e s m args below meth c hC H locs la hD hl
  exact lv_i2b hC.1 hC.2.1 hd rfl (h p e s m args below meth c hC H locs la hD hl)

theorem x_i2c {E : Ev} {l : Launch} {rm : Room} {y : MethodName} {cc : ByteArray} {nL : Nat} {ret : Option FieldType} {Xt : Array Value → State → Prop} {Zf : List Frame → Array Value → State → State → Prop} {pc : Nat} {ls : List (Nat × Value)} {st : List Value} {n : Nat} {I : MI} {L : ML} {R : MR} {cl sl : Nat} {x : Int32} (hd : decode cc pc = .ok (.i2c, 1)) (h : X E l rm y cc nL ret Xt Zf (pc + 1) ls (.int (x.toUInt32 % 65536).toInt32 :: st) (n) (I) (L) (R) (cl) (sl)) : X E l rm y cc nL ret Xt Zf (pc) ls (.int x :: st) (n) (I) (L) (R) (cl) (sl) := by
  intro p e s m args below meth c hC H locs la hD hl
  exact lv_i2c hC.1 hC.2.1 hd rfl (h p e s m args below meth c hC H locs la hD hl)

theorem x_dup {E : Ev} {l : Launch} {rm : Room} {y : MethodName} {cc : ByteArray} {nL : Nat} {ret : Option FieldType} {Xt : Array Value → State → Prop} {Zf : List Frame → Array Value → State → State → Prop} {pc : Nat} {ls : List (Nat × Value)} {st : List Value} {n : Nat} {I : MI} {L : ML} {R : MR} {cl sl : Nat} {v : Value} (hd : decode cc pc = .ok (.dup, 1)) (hv : (tv E v).category = 1) (h : X E l rm y cc nL ret Xt Zf (pc + 1) ls (v :: v :: st) (n) (I) (L) (R) (cl) (sl)) : X E l rm y cc nL ret Xt Zf (pc) ls (v :: st) (n) (I) (L) (R) (cl) (sl) := by
  intro p e s m args below meth c hC H locs la hD hl
  exact lv_dup hC.1 hC.2.1 hd hv (h p e s m args below meth c hC H locs la hD hl)

theorem x_dup2 {E : Ev} {l : Launch} {rm : Room} {y : MethodName} {cc : ByteArray} {nL : Nat} {ret : Option FieldType} {Xt : Array Value → State → Prop} {Zf : List Frame → Array Value → State → State → Prop} {pc : Nat} {ls : List (Nat × Value)} {st : List Value} {n : Nat} {I : MI} {L : ML} {R : MR} {cl sl : Nat} {v w : Value} (hd : decode cc pc = .ok (.dup2, 1)) (hv : (tv E v).category = 1) (hw : (tv E w).category = 1) (h : X E l rm y cc nL ret Xt Zf (pc + 1) ls (v :: w :: v :: w :: st) (n) (I) (L) (R) (cl) (sl)) : X E l rm y cc nL ret Xt Zf (pc) ls (v :: w :: st) (n) (I) (L) (R) (cl) (sl) := by
  intro p e s m args below meth c hC H locs la hD hl
  exact lv_dup2_11 hC.1 hC.2.1 hd hv hw (h p e s m args below meth c hC H locs la hD hl)

theorem x_pop {E : Ev} {l : Launch} {rm : Room} {y : MethodName} {cc : ByteArray} {nL : Nat} {ret : Option FieldType} {Xt : Array Value → State → Prop} {Zf : List Frame → Array Value → State → State → Prop} {pc : Nat} {ls : List (Nat × Value)} {st : List Value} {n : Nat} {I : MI} {L : ML} {R : MR} {cl sl : Nat} {v : Value} (hd : decode cc pc = .ok (.pop, 1)) (hv : (tv E v).category = 1) (h : X E l rm y cc nL ret Xt Zf (pc + 1) ls (st) (n) (I) (L) (R) (cl) (sl)) : X E l rm y cc nL ret Xt Zf (pc) ls (v :: st) (n) (I) (L) (R) (cl) (sl) := by
  intro p e s m args below meth c hC H locs la hD hl
  exact lv_pop hC.1 hC.2.1 hd hv (h p e s m args below meth c hC H locs la hD hl)

theorem x_if_eq {E : Ev} {l : Launch} {rm : Room} {y : MethodName} {cc : ByteArray} {nL : Nat} {ret : Option FieldType} {Xt : Array Value → State → Prop} {Zf : List Frame → Array Value → State → State → Prop} {pc : Nat} {ls : List (Nat × Value)} {st : List Value} {n : Nat} {I : MI} {L : ML} {R : MR} {cl sl : Nat} {x : Int32} {off : Int} {tgt : Nat} (hd : decode cc pc = .ok (.ifCond .eq off, 3)) (ht : (pc : Int) + off = (tgt : Int)) (h : (x = 0 → X E l rm y cc nL ret Xt Zf (tgt) ls (st) (n) (I) (L) (R) (cl) (sl)) ∧ (¬ x = 0 → X E l rm y cc nL ret Xt Zf (pc + 3) ls (st) (n) (I) (L) (R) (cl) (sl))) : X E l rm y cc nL ret Xt Zf (pc) ls (.int x :: st) (n) (I) (L) (R) (cl) (sl) := by
  intro p e s m args below meth c hC H locs la hD hl
  exact lv_if_eq hC.1 hC.2.1 hd ht (fun q => h.1 q p e s m args below meth c hC H locs la hD hl) (fun q => h.2 q p e s m args below meth c hC H locs la hD hl)

theorem x_icmp_eq {E : Ev} {l : Launch} {rm : Room} {y : MethodName} {cc : ByteArray} {nL : Nat} {ret : Option FieldType} {Xt : Array Value → State → Prop} {Zf : List Frame → Array Value → State → State → Prop} {pc : Nat} {ls : List (Nat × Value)} {st : List Value} {n : Nat} {I : MI} {L : ML} {R : MR} {cl sl : Nat} {x z : Int32} {off : Int} {tgt : Nat} (hd : decode cc pc = .ok (.if_icmp .eq off, 3)) (ht : (pc : Int) + off = (tgt : Int)) (h : (x = z → X E l rm y cc nL ret Xt Zf (tgt) ls (st) (n) (I) (L) (R) (cl) (sl)) ∧ (¬ x = z → X E l rm y cc nL ret Xt Zf (pc + 3) ls (st) (n) (I) (L) (R) (cl) (sl))) : X E l rm y cc nL ret Xt Zf (pc) ls (.int z :: .int x :: st) (n) (I) (L) (R) (cl) (sl) := by
  intro p e s m args below meth c hC H locs la hD hl
  exact lv_icmp_eq hC.1 hC.2.1 hd ht (fun q => h.1 q p e s m args below meth c hC H locs la hD hl) (fun q => h.2 q p e s m args below meth c hC H locs la hD hl)

theorem x_if_ne {E : Ev} {l : Launch} {rm : Room} {y : MethodName} {cc : ByteArray} {nL : Nat} {ret : Option FieldType} {Xt : Array Value → State → Prop} {Zf : List Frame → Array Value → State → State → Prop} {pc : Nat} {ls : List (Nat × Value)} {st : List Value} {n : Nat} {I : MI} {L : ML} {R : MR} {cl sl : Nat} {x : Int32} {off : Int} {tgt : Nat} (hd : decode cc pc = .ok (.ifCond .ne off, 3)) (ht : (pc : Int) + off = (tgt : Int)) (h : (¬ x = 0 → X E l rm y cc nL ret Xt Zf (tgt) ls (st) (n) (I) (L) (R) (cl) (sl)) ∧ (x = 0 → X E l rm y cc nL ret Xt Zf (pc + 3) ls (st) (n) (I) (L) (R) (cl) (sl))) : X E l rm y cc nL ret Xt Zf (pc) ls (.int x :: st) (n) (I) (L) (R) (cl) (sl) := by
  intro p e s m args below meth c hC H locs la hD hl
  exact lv_if_ne hC.1 hC.2.1 hd ht (fun q => h.1 q p e s m args below meth c hC H locs la hD hl) (fun q => h.2 q p e s m args below meth c hC H locs la hD hl)

theorem x_icmp_ne {E : Ev} {l : Launch} {rm : Room} {y : MethodName} {cc : ByteArray} {nL : Nat} {ret : Option FieldType} {Xt : Array Value → State → Prop} {Zf : List Frame → Array Value → State → State → Prop} {pc : Nat} {ls : List (Nat × Value)} {st : List Value} {n : Nat} {I : MI} {L : ML} {R : MR} {cl sl : Nat} {x z : Int32} {off : Int} {tgt : Nat} (hd : decode cc pc = .ok (.if_icmp .ne off, 3)) (ht : (pc : Int) + off = (tgt : Int)) (h : (¬ x = z → X E l rm y cc nL ret Xt Zf (tgt) ls (st) (n) (I) (L) (R) (cl) (sl)) ∧ (x = z → X E l rm y cc nL ret Xt Zf (pc + 3) ls (st) (n) (I) (L) (R) (cl) (sl))) : X E l rm y cc nL ret Xt Zf (pc) ls (.int z :: .int x :: st) (n) (I) (L) (R) (cl) (sl) := by
  intro p e s m args below meth c hC H locs la hD hl
  exact lv_icmp_ne hC.1 hC.2.1 hd ht (fun q => h.1 q p e s m args below meth c hC H locs la hD hl) (fun q => h.2 q p e s m args below meth c hC H locs la hD hl)

theorem x_if_lt {E : Ev} {l : Launch} {rm : Room} {y : MethodName} {cc : ByteArray} {nL : Nat} {ret : Option FieldType} {Xt : Array Value → State → Prop} {Zf : List Frame → Array Value → State → State → Prop} {pc : Nat} {ls : List (Nat × Value)} {st : List Value} {n : Nat} {I : MI} {L : ML} {R : MR} {cl sl : Nat} {x : Int32} {off : Int} {tgt : Nat} (hd : decode cc pc = .ok (.ifCond .lt off, 3)) (ht : (pc : Int) + off = (tgt : Int)) (h : (x < 0 → X E l rm y cc nL ret Xt Zf (tgt) ls (st) (n) (I) (L) (R) (cl) (sl)) ∧ (¬ x < 0 → X E l rm y cc nL ret Xt Zf (pc + 3) ls (st) (n) (I) (L) (R) (cl) (sl))) : X E l rm y cc nL ret Xt Zf (pc) ls (.int x :: st) (n) (I) (L) (R) (cl) (sl) := by
  intro p e s m args below meth c hC H locs la hD hl
  exact lv_if_lt hC.1 hC.2.1 hd ht (fun q => h.1 q p e s m args below meth c hC H locs la hD hl) (fun q => h.2 q p e s m args below meth c hC H locs la hD hl)

theorem x_icmp_lt {E : Ev} {l : Launch} {rm : Room} {y : MethodName} {cc : ByteArray} {nL : Nat} {ret : Option FieldType} {Xt : Array Value → State → Prop} {Zf : List Frame → Array Value → State → State → Prop} {pc : Nat} {ls : List (Nat × Value)} {st : List Value} {n : Nat} {I : MI} {L : ML} {R : MR} {cl sl : Nat} {x z : Int32} {off : Int} {tgt : Nat} (hd : decode cc pc = .ok (.if_icmp .lt off, 3)) (ht : (pc : Int) + off = (tgt : Int)) (h : (x < z → X E l rm y cc nL ret Xt Zf (tgt) ls (st) (n) (I) (L) (R) (cl) (sl)) ∧ (¬ x < z → X E l rm y cc nL ret Xt Zf (pc + 3) ls (st) (n) (I) (L) (R) (cl) (sl))) : X E l rm y cc nL ret Xt Zf (pc) ls (.int z :: .int x :: st) (n) (I) (L) (R) (cl) (sl) := by
  intro p e s m args below meth c hC H locs la hD hl
  exact lv_icmp_lt hC.1 hC.2.1 hd ht (fun q => h.1 q p e s m args below meth c hC H locs la hD hl) (fun q => h.2 q p e s m args below meth c hC H locs la hD hl)

theorem x_if_ge {E : Ev} {l : Launch} {rm : Room} {y : MethodName} {cc : ByteArray} {nL : Nat} {ret : Option FieldType} {Xt : Array Value → State → Prop} {Zf : List Frame → Array Value → State → State → Prop} {pc : Nat} {ls : List (Nat × Value)} {st : List Value} {n : Nat} {I : MI} {L : ML} {R : MR} {cl sl : Nat} {x : Int32} {off : Int} {tgt : Nat} (hd : decode cc pc = .ok (.ifCond .ge off, 3)) (ht : (pc : Int) + off = (tgt : Int)) (h : (0 ≤ x → X E l rm y cc nL ret Xt Zf (tgt) ls (st) (n) (I) (L) (R) (cl) (sl)) ∧ (¬ 0 ≤ x → X E l rm y cc nL ret Xt Zf (pc + 3) ls (st) (n) (I) (L) (R) (cl) (sl))) : X E l rm y cc nL ret Xt Zf (pc) ls (.int x :: st) (n) (I) (L) (R) (cl) (sl) := by
  intro p e s m args below meth c hC H locs la hD hl
  exact lv_if_ge hC.1 hC.2.1 hd ht (fun q => h.1 q p e s m args below meth c hC H locs la hD hl) (fun q => h.2 q p e s m args below meth c hC H locs la hD hl)

theorem x_icmp_ge {E : Ev} {l : Launch} {rm : Room} {y : MethodName} {cc : ByteArray} {nL : Nat} {ret : Option FieldType} {Xt : Array Value → State → Prop} {Zf : List Frame → Array Value → State → State → Prop} {pc : Nat} {ls : List (Nat × Value)} {st : List Value} {n : Nat} {I : MI} {L : ML} {R : MR} {cl sl : Nat} {x z : Int32} {off : Int} {tgt : Nat} (hd : decode cc pc = .ok (.if_icmp .ge off, 3)) (ht : (pc : Int) + off = (tgt : Int)) (h : (z ≤ x → X E l rm y cc nL ret Xt Zf (tgt) ls (st) (n) (I) (L) (R) (cl) (sl)) ∧ (¬ z ≤ x → X E l rm y cc nL ret Xt Zf (pc + 3) ls (st) (n) (I) (L) (R) (cl) (sl))) : X E l rm y cc nL ret Xt Zf (pc) ls (.int z :: .int x :: st) (n) (I) (L) (R) (cl) (sl) := by
  intro p e s m args below meth c hC H locs la hD hl
  exact lv_icmp_ge hC.1 hC.2.1 hd ht (fun q => h.1 q p e s m args below meth c hC H locs la hD hl) (fun q => h.2 q p e s m args below meth c hC H locs la hD hl)

theorem x_if_gt {E : Ev} {l : Launch} {rm : Room} {y : MethodName} {cc : ByteArray} {nL : Nat} {ret : Option FieldType} {Xt : Array Value → State → Prop} {Zf : List Frame → Array Value → State → State → Prop} {pc : Nat} {ls : List (Nat × Value)} {st : List Value} {n : Nat} {I : MI} {L : ML} {R : MR} {cl sl : Nat} {x : Int32} {off : Int} {tgt : Nat} (hd : decode cc pc = .ok (.ifCond .gt off, 3)) (ht : (pc : Int) + off = (tgt : Int)) (h : (0 < x → X E l rm y cc nL ret Xt Zf (tgt) ls (st) (n) (I) (L) (R) (cl) (sl)) ∧ (¬ 0 < x → X E l rm y cc nL ret Xt Zf (pc + 3) ls (st) (n) (I) (L) (R) (cl) (sl))) : X E l rm y cc nL ret Xt Zf (pc) ls (.int x :: st) (n) (I) (L) (R) (cl) (sl) := by
  intro p e s m args below meth c hC H locs la hD hl
  exact lv_if_gt hC.1 hC.2.1 hd ht (fun q => h.1 q p e s m args below meth c hC H locs la hD hl) (fun q => h.2 q p e s m args below meth c hC H locs la hD hl)

theorem x_icmp_gt {E : Ev} {l : Launch} {rm : Room} {y : MethodName} {cc : ByteArray} {nL : Nat} {ret : Option FieldType} {Xt : Array Value → State → Prop} {Zf : List Frame → Array Value → State → State → Prop} {pc : Nat} {ls : List (Nat × Value)} {st : List Value} {n : Nat} {I : MI} {L : ML} {R : MR} {cl sl : Nat} {x z : Int32} {off : Int} {tgt : Nat} (hd : decode cc pc = .ok (.if_icmp .gt off, 3)) (ht : (pc : Int) + off = (tgt : Int)) (h : (z < x → X E l rm y cc nL ret Xt Zf (tgt) ls (st) (n) (I) (L) (R) (cl) (sl)) ∧ (¬ z < x → X E l rm y cc nL ret Xt Zf (pc + 3) ls (st) (n) (I) (L) (R) (cl) (sl))) : X E l rm y cc nL ret Xt Zf (pc) ls (.int z :: .int x :: st) (n) (I) (L) (R) (cl) (sl) := by
  intro p e s m args below meth c hC H locs la hD hl
  exact lv_icmp_gt hC.1 hC.2.1 hd ht (fun q => h.1 q p e s m args below meth c hC H locs la hD hl) (fun q => h.2 q p e s m args below meth c hC H locs la hD hl)

theorem x_if_le {E : Ev} {l : Launch} {rm : Room} {y : MethodName} {cc : ByteArray} {nL : Nat} {ret : Option FieldType} {Xt : Array Value → State → Prop} {Zf : List Frame → Array Value → State → State → Prop} {pc : Nat} {ls : List (Nat × Value)} {st : List Value} {n : Nat} {I : MI} {L : ML} {R : MR} {cl sl : Nat} {x : Int32} {off : Int} {tgt : Nat} (hd : decode cc pc = .ok (.ifCond .le off, 3)) (ht : (pc : Int) + off = (tgt : Int)) (h : (x ≤ 0 → X E l rm y cc nL ret Xt Zf (tgt) ls (st) (n) (I) (L) (R) (cl) (sl)) ∧ (¬ x ≤ 0 → X E l rm y cc nL ret Xt Zf (pc + 3) ls (st) (n) (I) (L) (R) (cl) (sl))) : X E l rm y cc nL ret Xt Zf (pc) ls (.int x :: st) (n) (I) (L) (R) (cl) (sl) := by
  intro p e s m args below meth c hC H locs la hD hl
  exact lv_if_le hC.1 hC.2.1 hd ht (fun q => h.1 q p e s m args below meth c hC H locs la hD hl) (fun q => h.2 q p e s m args below meth c hC H locs la hD hl)

theorem x_icmp_le {E : Ev} {l : Launch} {rm : Room} {y : MethodName} {cc : ByteArray} {nL : Nat} {ret : Option FieldType} {Xt : Array Value → State → Prop} {Zf : List Frame → Array Value → State → State → Prop} {pc : Nat} {ls : List (Nat × Value)} {st : List Value} {n : Nat} {I : MI} {L : ML} {R : MR} {cl sl : Nat} {x z : Int32} {off : Int} {tgt : Nat} (hd : decode cc pc = .ok (.if_icmp .le off, 3)) (ht : (pc : Int) + off = (tgt : Int)) (h : (x ≤ z → X E l rm y cc nL ret Xt Zf (tgt) ls (st) (n) (I) (L) (R) (cl) (sl)) ∧ (¬ x ≤ z → X E l rm y cc nL ret Xt Zf (pc + 3) ls (st) (n) (I) (L) (R) (cl) (sl))) : X E l rm y cc nL ret Xt Zf (pc) ls (.int z :: .int x :: st) (n) (I) (L) (R) (cl) (sl) := by
  intro p e s m args below meth c hC H locs la hD hl
  exact lv_icmp_le hC.1 hC.2.1 hd ht (fun q => h.1 q p e s m args below meth c hC H locs la hD hl) (fun q => h.2 q p e s m args below meth c hC H locs la hD hl)

theorem x_goto {E : Ev} {l : Launch} {rm : Room} {y : MethodName} {cc : ByteArray} {nL : Nat} {ret : Option FieldType} {Xt : Array Value → State → Prop} {Zf : List Frame → Array Value → State → State → Prop} {pc : Nat} {ls : List (Nat × Value)} {st : List Value} {n : Nat} {I : MI} {L : ML} {R : MR} {cl sl : Nat} {off : Int} {tgt : Nat} (hd : decode cc pc = .ok (.goto off, 3)) (ht : (pc : Int) + off = (tgt : Int)) (h : X E l rm y cc nL ret Xt Zf (tgt) ls (st) (n) (I) (L) (R) (cl) (sl)) : X E l rm y cc nL ret Xt Zf (pc) ls (st) (n) (I) (L) (R) (cl) (sl) := by
  intro p e s m args below meth c hC H locs la hD hl
  exact lv_goto hC.1 hC.2.1 hd ht (h p e s m args below meth c hC H locs la hD hl)

theorem x_ifnull {E : Ev} {l : Launch} {rm : Room} {y : MethodName} {cc : ByteArray} {nL : Nat} {ret : Option FieldType} {Xt : Array Value → State → Prop} {Zf : List Frame → Array Value → State → State → Prop} {pc : Nat} {ls : List (Nat × Value)} {st : List Value} {n : Nat} {I : MI} {L : ML} {R : MR} {cl sl : Nat} {x : Nat} {off : Int} (hd : decode cc pc = .ok (.ifnull off, 3)) (h : X E l rm y cc nL ret Xt Zf (pc + 3) ls (st) (n) (I) (L) (R) (cl) (sl)) : X E l rm y cc nL ret Xt Zf (pc) ls (.ref x :: st) (n) (I) (L) (R) (cl) (sl) := by
  intro p e s m args below meth c hC H locs la hD hl
  exact lv_ifnull hC.1 hC.2.1 hd (h p e s m args below meth c hC H locs la hD hl)

theorem x_tabOut {E : Ev} {l : Launch} {rm : Room} {y : MethodName} {cc : ByteArray} {nL : Nat} {ret : Option FieldType} {Xt : Array Value → State → Prop} {Zf : List Frame → Array Value → State → State → Prop} {pc : Nat} {ls : List (Nat × Value)} {st : List Value} {n : Nat} {I : MI} {L : ML} {R : MR} {cl sl : Nat} {dflt lo hi : Int} {offs : Array Int} {len : Nat} {x : Int32} {tgt : Nat} (hd : decode cc pc = .ok (.tableswitch dflt lo hi offs, len)) (hx : x.toInt < lo ∨ hi < x.toInt) (ht : (pc : Int) + dflt = (tgt : Int)) (h : X E l rm y cc nL ret Xt Zf (tgt) ls (st) (n) (I) (L) (R) (cl) (sl)) : X E l rm y cc nL ret Xt Zf (pc) ls (.int x :: st) (n) (I) (L) (R) (cl) (sl) := by
  intro p e s m args below meth c hC H locs la hD hl
  exact lv_tableOut hC.1 hC.2.1 hd hx ht (h p e s m args below meth c hC H locs la hD hl)

theorem x_tabIn {E : Ev} {l : Launch} {rm : Room} {y : MethodName} {cc : ByteArray} {nL : Nat} {ret : Option FieldType} {Xt : Array Value → State → Prop} {Zf : List Frame → Array Value → State → State → Prop} {pc : Nat} {ls : List (Nat × Value)} {st : List Value} {n : Nat} {I : MI} {L : ML} {R : MR} {cl sl : Nat} {dflt lo hi : Int} {offs : Array Int} {len : Nat} {x : Int32} {off : Int} {tgt : Nat} (hd : decode cc pc = .ok (.tableswitch dflt lo hi offs, len)) (h1 : ¬ x.toInt < lo) (h2 : ¬ hi < x.toInt) (ho : offs[(x.toInt - lo).toNat]? = some off) (ht : (pc : Int) + off = (tgt : Int)) (h : X E l rm y cc nL ret Xt Zf (tgt) ls (st) (n) (I) (L) (R) (cl) (sl)) : X E l rm y cc nL ret Xt Zf (pc) ls (.int x :: st) (n) (I) (L) (R) (cl) (sl) := by
  intro p e s m args below meth c hC H locs la hD hl
  exact lv_tableIn hC.1 hC.2.1 hd h1 h2 ho ht (h p e s m args below meth c hC H locs la hD hl)

theorem x_look {E : Ev} {l : Launch} {rm : Room} {y : MethodName} {cc : ByteArray} {nL : Nat} {ret : Option FieldType} {Xt : Array Value → State → Prop} {Zf : List Frame → Array Value → State → State → Prop} {pc : Nat} {ls : List (Nat × Value)} {st : List Value} {n : Nat} {I : MI} {L : ML} {R : MR} {cl sl : Nat} {dflt : Int} {ps : Array (Int × Int)} {len : Nat} {x : Int32} {off : Int} {tgt : Nat} (hd : decode cc pc = .ok (.lookupswitch dflt ps, len)) (hp : (ps.toList.zip (ps.toList.drop 1)).all (fun (a, next) => a.1 < next.1) = true) (ho : Op.lookupswitch.offset ps.toList dflt x.toInt = off) (ht : (pc : Int) + off = (tgt : Int)) (h : X E l rm y cc nL ret Xt Zf (tgt) ls (st) (n) (I) (L) (R) (cl) (sl)) : X E l rm y cc nL ret Xt Zf (pc) ls (.int x :: st) (n) (I) (L) (R) (cl) (sl) := by
  intro p e s m args below meth c hC H locs la hD hl
  exact lv_lookup hC.1 hC.2.1 hd hp ho ht (h p e s m args below meth c hC H locs la hD hl)

theorem x_ls {E : Ev} {l : Launch} {rm : Room} {y : MethodName} {cc : ByteArray} {nL : Nat} {ret : Option FieldType} {Xt : Array Value → State → Prop} {Zf : List Frame → Array Value → State → State → Prop} {pc : Nat} {ls : List (Nat × Value)} {st : List Value} {n : Nat} {I : MI} {L : ML} {R : MR} {cl sl : Nat} {ls' : List (Nat × Value)} (ks : List Nat) (hk : lv_pick ls ks = ls') (h : X E l rm y cc nL ret Xt Zf (pc) ls' (st) (n) (I) (L) (R) (cl) (sl)) : X E l rm y cc nL ret Xt Zf (pc) ls (st) (n) (I) (L) (R) (cl) (sl) := by
  intro p e s m args below meth c hC H locs la hD hl
  exact h p e s m args below meth c hC H locs la hD (lv_sub hl ks (by rw [← hk]; exact lv_pick_map ls ks))

theorem x_geti {E : Ev} {l : Launch} {rm : Room} {y : MethodName} {cc : ByteArray} {nL : Nat} {ret : Option FieldType} {Xt : Array Value → State → Prop} {Zf : List Frame → Array Value → State → State → Prop} {pc : Nat} {ls : List (Nat × Value)} {st : List Value} {n : Nat} {I : MI} {L : ML} {R : MR} {cl sl : Nat} {idx k ci i : Nat} {C : String} {T : u_T} {N : Nat} (hd : decode cc pc = .ok (.getfield idx, 3)) (hf : Fk y.cls idx ci i C T N false) (hk : k < n) (hs : sh k = .inl ci) (h : X E l rm y cc nL ret Xt Zf (pc + 3) ls (.int (I k i) :: st) (n) (I) (L) (R) (cl) (sl)) : X E l rm y cc nL ret Xt Zf (pc) ls (.ref k :: st) (n) (I) (L) (R) (cl) (sl) := by
  intro p e s m args below meth c hC H locs la hD hl
  exact va_get hC.1 hC.2.1 hC.ts hf.1 hC.own hC.K hD.1 k (Om_obj hk hs) hf.2.1 i hf.2.2.1 (hC.wd hf.2.2.2.1) (fun _ h => h) (fvs_i hf.2.2.2.2) hd (h p e s m args below meth c hC H locs la hD hl)

theorem x_getr {E : Ev} {l : Launch} {rm : Room} {y : MethodName} {cc : ByteArray} {nL : Nat} {ret : Option FieldType} {Xt : Array Value → State → Prop} {Zf : List Frame → Array Value → State → State → Prop} {pc : Nat} {ls : List (Nat × Value)} {st : List Value} {n : Nat} {I : MI} {L : ML} {R : MR} {cl sl : Nat} {idx k ci i j : Nat} {C : String} {T : u_T} {N : Nat} (hd : decode cc pc = .ok (.getfield idx, 3)) (hf : Fk y.cls idx ci i C T N true) (hk : k < n) (hs : sh k = .inl ci) (hj : R k i = some j) (h : X E l rm y cc nL ret Xt Zf (pc + 3) ls (.ref j :: st) (n) (I) (L) (R) (cl) (sl)) : X E l rm y cc nL ret Xt Zf (pc) ls (.ref k :: st) (n) (I) (L) (R) (cl) (sl) := by
  intro p e s m args below meth c hC H locs la hD hl
  exact va_get hC.1 hC.2.1 hC.ts hf.1 hC.own hC.K hD.1 k (Om_obj hk hs) hf.2.1 i hf.2.2.1 (hC.wd hf.2.2.2.1) (fun _ h => h) (fvs_r hf.2.2.2.2 hj) hd (h p e s m args below meth c hC H locs la hD hl)

theorem x_puti {E : Ev} {l : Launch} {rm : Room} {y : MethodName} {cc : ByteArray} {nL : Nat} {ret : Option FieldType} {Xt : Array Value → State → Prop} {Zf : List Frame → Array Value → State → State → Prop} {pc : Nat} {ls : List (Nat × Value)} {st : List Value} {n : Nat} {I : MI} {L : ML} {R : MR} {cl sl : Nat} {idx k ci i : Nat} {v : Int32} {C : String} {T : u_T} {N : Nat} {ty0 : Nat → FieldType} (hd : decode cc pc = .ok (.putfield idx, 3)) (hf : Fk y.cls idx ci i C T N false) (hw : Fw T N i ty0) (hn : narrow (ty0 i) (.int v) = .int v) (hft : fits (ty0 i) (.int v) = true) (hk : k < n) (hs : sh k = .inl ci) (h : ∀ I', I' = u2 I k i v → X E l rm y cc nL ret Xt Zf (pc + 3) ls (st) (n) (I') (L) (R) (cl) (sl)) : X E l rm y cc nL ret Xt Zf (pc) ls (.int v :: .ref k :: st) (n) (I) (L) (R) (cl) (sl) := by
  intro p e s m args below meth c hC H locs la hD hl
  refine va_put hC.1 hC.2.1 hC.ts hf.1 ty0 hw.1 hw.2.1 hC.own hC.K hD.1 hD.D hD.rf k (Om_obj hk hs) hf.2.1 i hf.2.2.1 (hC.wd hf.2.2.2.1) (fun _ h => h) hw.2.2 (hw.1 i hf.2.2.1) hn hft (fvs_len hf.2.2.2.2) hd (v := Value.int v) (fun H1 locs1 hP1 hD1 hS1 => ?_)
  rw [Om_puti hk hs hf.2.2.2.2] at hP1 hD1
  exact W_sz (fun hz => h _ rfl p e s m args below meth c hC H1 locs1 la (hD.put hP1 hD1 hS1 hz) hl)

theorem x_putr {E : Ev} {l : Launch} {rm : Room} {y : MethodName} {cc : ByteArray} {nL : Nat} {ret : Option FieldType} {Xt : Array Value → State → Prop} {Zf : List Frame → Array Value → State → State → Prop} {pc : Nat} {ls : List (Nat × Value)} {st : List Value} {n : Nat} {I : MI} {L : ML} {R : MR} {cl sl : Nat} {idx k ci i v : Nat} {C : String} {T : u_T} {N : Nat} {ty0 : Nat → FieldType} (hd : decode cc pc = .ok (.putfield idx, 3)) (hf : Fk y.cls idx ci i C T N true) (hw : Fw T N i ty0) (hn : narrow (ty0 i) (.ref (ad E v)) = .ref (ad E v)) (hft : fits (ty0 i) (.ref (ad E v)) = true) (hk : k < n) (hs : sh k = .inl ci) (h : X E l rm y cc nL ret Xt Zf (pc + 3) ls (st) (n) (I) (L) (u2 R k i (some v)) (cl) (sl)) : X E l rm y cc nL ret Xt Zf (pc) ls (.ref v :: .ref k :: st) (n) (I) (L) (R) (cl) (sl) := by
  intro p e s m args below meth c hC H locs la hD hl
  refine va_put hC.1 hC.2.1 hC.ts hf.1 ty0 hw.1 hw.2.1 hC.own hC.K hD.1 hD.D hD.rf k (Om_obj hk hs) hf.2.1 i hf.2.2.1 (hC.wd hf.2.2.2.1) (fun _ h => h) hw.2.2 (hw.1 i hf.2.2.1) hn hft (fvs_len hf.2.2.2.2) hd (v := Value.ref (ad E v)) (fun H1 locs1 hP1 hD1 hS1 => ?_)
  rw [Om_putr hk hs hf.2.2.2.2] at hP1 hD1
  exact W_sz (fun hz => h p e s m args below meth c hC H1 locs1 la (hD.put hP1 hD1 hS1 hz) hl)

theorem x_iaload {E : Ev} {l : Launch} {rm : Room} {y : MethodName} {cc : ByteArray} {nL : Nat} {ret : Option FieldType} {Xt : Array Value → State → Prop} {Zf : List Frame → Array Value → State → State → Prop} {pc : Nat} {ls : List (Nat × Value)} {st : List Value} {n : Nat} {I : MI} {L : ML} {R : MR} {cl sl : Nat} {k N : Nat} {j : Int32} (hd : decode cc pc = .ok (.iaload, 1)) (hk : k < n) (hs : sh k = .inr (0, N)) (hj : vp_in j N) (h : X E l rm y cc nL ret Xt Zf (pc + 1) ls (.int (I k (ix j)) :: st) (n) (I) (L) (R) (cl) (sl)) : X E l rm y cc nL ret Xt Zf (pc) ls (.int j :: .ref k :: st) (n) (I) (L) (R) (cl) (sl) := by
  intro p e s m args below meth c hC H locs la hD hl
  exact va_iald hC.1 hC.2.1 hC.K hD.1 k 0 (Om_arr0 hk hs) rfl hj hd (h p e s m args below meth c hC H locs la hD hl)

theorem x_baload {E : Ev} {l : Launch} {rm : Room} {y : MethodName} {cc : ByteArray} {nL : Nat} {ret : Option FieldType} {Xt : Array Value → State → Prop} {Zf : List Frame → Array Value → State → State → Prop} {pc : Nat} {ls : List (Nat × Value)} {st : List Value} {n : Nat} {I : MI} {L : ML} {R : MR} {cl sl : Nat} {k N : Nat} {j : Int32} (hd : decode cc pc = .ok (.baload, 1)) (hk : k < n) (hs : sh k = .inr (2, N)) (hj : vp_in j N) (h : X E l rm y cc nL ret Xt Zf (pc + 1) ls (.int (I k (ix j)) :: st) (n) (I) (L) (R) (cl) (sl)) : X E l rm y cc nL ret Xt Zf (pc) ls (.int j :: .ref k :: st) (n) (I) (L) (R) (cl) (sl) := by
  intro p e s m args below meth c hC H locs la hD hl
  exact va_bald hC.1 hC.2.1 hC.K hD.1 k 2 (Om_arr2 hk hs) rfl hj hd (h p e s m args below meth c hC H locs la hD hl)

theorem x_laload {E : Ev} {l : Launch} {rm : Room} {y : MethodName} {cc : ByteArray} {nL : Nat} {ret : Option FieldType} {Xt : Array Value → State → Prop} {Zf : List Frame → Array Value → State → State → Prop} {pc : Nat} {ls : List (Nat × Value)} {st : List Value} {n : Nat} {I : MI} {L : ML} {R : MR} {cl sl : Nat} {k N : Nat} {j : Int32} (hd : decode cc pc = .ok (.laload, 1)) (hk : k < n) (hs : sh k = .inr (1, N)) (hj : vp_in j N) (h : X E l rm y cc nL ret Xt Zf (pc + 1) ls (.long (L k (ix j)) :: st) (n) (I) (L) (R) (cl) (sl)) : X E l rm y cc nL ret Xt Zf (pc) ls (.int j :: .ref k :: st) (n) (I) (L) (R) (cl) (sl) := by
  intro p e s m args below meth c hC H locs la hD hl
  exact va_lald hC.1 hC.2.1 hC.K hD.1 k 1 (Om_arr1 hk hs) rfl hj hd (h p e s m args below meth c hC H locs la hD hl)

theorem x_alen {E : Ev} {l : Launch} {rm : Room} {y : MethodName} {cc : ByteArray} {nL : Nat} {ret : Option FieldType} {Xt : Array Value → State → Prop} {Zf : List Frame → Array Value → State → State → Prop} {pc : Nat} {ls : List (Nat × Value)} {st : List Value} {n : Nat} {I : MI} {L : ML} {R : MR} {cl sl : Nat} {k t N : Nat} {v : Int32} (hd : decode cc pc = .ok (.arraylength, 1)) (hk : k < n) (hs : sh k = .inr (t, N)) (ht : t < 4) (hv : Int32.ofNat N = v) (h : X E l rm y cc nL ret Xt Zf (pc + 1) ls (.int v :: st) (n) (I) (L) (R) (cl) (sl)) : X E l rm y cc nL ret Xt Zf (pc) ls (.ref k :: st) (n) (I) (L) (R) (cl) (sl) := by
  intro p e s m args below meth c hC H locs la hD hl
  obtain ⟨ty, hty⟩ := tys_at E ht
  obtain ⟨z, hz⟩ := Om_arr (E := E) (I := I) (L := L) (R := R) hk hs
  exact va_alen hC.1 hC.2.1 hC.K hD.1 k t hz hty hv hd (h p e s m args below meth c hC H locs la hD hl)

theorem x_iastore {E : Ev} {l : Launch} {rm : Room} {y : MethodName} {cc : ByteArray} {nL : Nat} {ret : Option FieldType} {Xt : Array Value → State → Prop} {Zf : List Frame → Array Value → State → State → Prop} {pc : Nat} {ls : List (Nat × Value)} {st : List Value} {n : Nat} {I : MI} {L : ML} {R : MR} {cl sl : Nat} {k N : Nat} {j v : Int32} (hd : decode cc pc = .ok (.iastore, 1)) (hk : k < n) (hs : sh k = .inr (0, N)) (hj : vp_in j N) (h : ∀ I', I' = u2 I k (ix j) v → X E l rm y cc nL ret Xt Zf (pc + 1) ls (st) (n) (I') (L) (R) (cl) (sl)) : X E l rm y cc nL ret Xt Zf (pc) ls (.int v :: .int j :: .ref k :: st) (n) (I) (L) (R) (cl) (sl) := by
  intro p e s m args below meth c hC H locs la hD hl
  refine va_iast hC.1 hC.2.1 hC.K hD.1 hD.D hD.rf k 0 (Om_arr0 hk hs) rfl hj hd (fun H1 locs1 hP1 hD1 hS1 => ?_)
  rw [Om_put0 hk hs] at hP1 hD1
  exact W_sz (fun hz => h _ rfl p e s m args below meth c hC H1 locs1 la (hD.put hP1 hD1 hS1 hz) hl)

theorem x_bastore {E : Ev} {l : Launch} {rm : Room} {y : MethodName} {cc : ByteArray} {nL : Nat} {ret : Option FieldType} {Xt : Array Value → State → Prop} {Zf : List Frame → Array Value → State → State → Prop} {pc : Nat} {ls : List (Nat × Value)} {st : List Value} {n : Nat} {I : MI} {L : ML} {R : MR} {cl sl : Nat} {k N : Nat} {j v : Int32} (hd : decode cc pc = .ok (.bastore, 1)) (hk : k < n) (hs : sh k = .inr (2, N)) (hj : vp_in j N) (h : ∀ I', I' = u2 I k (ix j) (vp_nar .byte v) → X E l rm y cc nL ret Xt Zf (pc + 1) ls (st) (n) (I') (L) (R) (cl) (sl)) : X E l rm y cc nL ret Xt Zf (pc) ls (.int v :: .int j :: .ref k :: st) (n) (I) (L) (R) (cl) (sl) := by
  intro p e s m args below meth c hC H locs la hD hl
  refine va_bast hC.1 hC.2.1 hC.K hD.1 hD.D hD.rf k 2 (Om_arr2 hk hs) rfl hj hd (fun H1 locs1 hP1 hD1 hS1 => ?_)
  rw [Om_put2 hk hs] at hP1 hD1
  exact W_sz (fun hz => h _ rfl p e s m args below meth c hC H1 locs1 la (hD.put hP1 hD1 hS1 hz) hl)

theorem x_lastore {E : Ev} {l : Launch} {rm : Room} {y : MethodName} {cc : ByteArray} {nL : Nat} {ret : Option FieldType} {Xt : Array Value → State → Prop} {Zf : List Frame → Array Value → State → State → Prop} {pc : Nat} {ls : List (Nat × Value)} {st : List Value} {n : Nat} {I : MI} {L : ML} {R : MR} {cl sl : Nat} {k N : Nat} {j : Int32} {v : Int64} (hd : decode cc pc = .ok (.lastore, 1)) (hk : k < n) (hs : sh k = .inr (1, N)) (hj : vp_in j N) (h : ∀ L', L' = u2 L k (ix j) v → X E l rm y cc nL ret Xt Zf (pc + 1) ls (st) (n) (I) (L') (R) (cl) (sl)) : X E l rm y cc nL ret Xt Zf (pc) ls (.long v :: .int j :: .ref k :: st) (n) (I) (L) (R) (cl) (sl) := by
  intro p e s m args below meth c hC H locs la hD hl
  refine va_last hC.1 hC.2.1 hC.K hD.1 hD.D hD.rf k 1 (Om_arr1 hk hs) rfl hj hd (fun H1 locs1 hP1 hD1 hS1 => ?_)
  rw [Om_put1 hk hs] at hP1 hD1
  exact W_sz (fun hz => h _ rfl p e s m args below meth c hC H1 locs1 la (hD.put hP1 hD1 hS1 hz) hl)

theorem x_aaload {E : Ev} {l : Launch} {rm : Room} {y : MethodName} {cc : ByteArray} {nL : Nat} {ret : Option FieldType} {Xt : Array Value → State → Prop} {Zf : List Frame → Array Value → State → State → Prop} {pc : Nat} {ls : List (Nat × Value)} {st : List Value} {n : Nat} {I : MI} {L : ML} {R : MR} {cl sl : Nat} {k N r : Nat} {j : Int32} (hd : decode cc pc = .ok (.aaload, 1)) (hk : k < n) (hs : sh k = .inr (3, N)) (hj : vp_in j N) (hr : R k (ix j) = some r) (h : X E l rm y cc nL ret Xt Zf (pc + 1) ls (.ref r :: st) (n) (I) (L) (R) (cl) (sl)) : X E l rm y cc nL ret Xt Zf (pc) ls (.int j :: .ref k :: st) (n) (I) (L) (R) (cl) (sl) := by
  intro p e s m args below meth c hC H locs la hD hl
  refine va_aldq hC.1 hC.2.1 hC.K hD.1 k 3 (Om_arr3 hk hs) rfl hj hd ?_
  have := h p e s m args below meth c hC H locs la hD hl
  rw [show va_rf ((R k j.toNatClampNeg).map (ad E)) = Value.ref (ad E r) from by rw [show R k j.toNatClampNeg = some r from hr]; rfl]
  exact this

theorem x_copyi {E : Ev} {l : Launch} {rm : Room} {y : MethodName} {cc : ByteArray} {nL : Nat} {ret : Option FieldType} {Xt : Array Value → State → Prop} {Zf : List Frame → Array Value → State → State → Prop} {pc : Nat} {ls : List (Nat × Value)} {st : List Value} {n : Nat} {I : MI} {L : ML} {R : MR} {cl sl : Nat} {idx k0 k1 n0 n1 : Nat} {sp dp q : Int32} (hd : decode cc pc = .ok (.invokestatic idx, 3)) (hw : Cond.methodLink y.cls idx arraycopyName ∈ gt) (hk0 : k0 < n) (hs0 : sh k0 = .inr (0, n0)) (hk1 : k1 < n) (hs1 : sh k1 = .inr (0, n1)) (h1 : ¬ sp < 0) (h2 : ¬ dp < 0) (h3 : ¬ q < 0) (h4 : ix sp + ix q ≤ n0) (h5 : ix dp + ix q ≤ n1) (hr : 1 ≤ rm.frames ∧ (st.map fun v => v.category).sum + 40 ≤ rm.locals) (h : ∀ M', M' = ur I k1 (va_cpy (I k0) (I k1) (ix sp) (ix dp) (ix q)) → X E l rm y cc nL ret Xt Zf (pc + 3) ls (st) (n) (M') (L) (R) (cl) (sl)) : X E l rm y cc nL ret Xt Zf (pc) ls (.int q :: .int dp :: .ref k1 :: .int sp :: .ref k0 :: st) (n) (I) (L) (R) (cl) (sl) := by
  intro p e s m args below meth c hC H locs la hD hl
  refine va_copyi hC.1 hC.2.1 (hC.2.2.2.1.trans hl.1.symm) hC.own (hC.wd hw) (hC.wd wd_acN) (hC.wd wd_acS) (hC.wd wd_iSys) hC.K hD.1 hD.D hD.rf k0 k1 0 0 (Om_arr0 hk0 hs0) (Om_arr0 hk1 hs1) rfl rfl rfl h1 h2 h3 h4 h5 (fun i _ => rfl) hr.1 (by rw [tv_cats]; exact Nat.le_trans (Nat.add_le_add_left ac_words _) hr.2) hd (fun H1 locs1 hP1 hD1 hS1 => ?_)
  rw [Om_row0 hk1 hs1] at hP1 hD1
  exact W_sz (fun hz => h _ rfl p e s m args below meth c hC H1 locs1 la (hD.put hP1 hD1 hS1 hz) hl)

theorem x_copyl {E : Ev} {l : Launch} {rm : Room} {y : MethodName} {cc : ByteArray} {nL : Nat} {ret : Option FieldType} {Xt : Array Value → State → Prop} {Zf : List Frame → Array Value → State → State → Prop} {pc : Nat} {ls : List (Nat × Value)} {st : List Value} {n : Nat} {I : MI} {L : ML} {R : MR} {cl sl : Nat} {idx k0 k1 n0 n1 : Nat} {sp dp q : Int32} (hd : decode cc pc = .ok (.invokestatic idx, 3)) (hw : Cond.methodLink y.cls idx arraycopyName ∈ gt) (hk0 : k0 < n) (hs0 : sh k0 = .inr (1, n0)) (hk1 : k1 < n) (hs1 : sh k1 = .inr (1, n1)) (h1 : ¬ sp < 0) (h2 : ¬ dp < 0) (h3 : ¬ q < 0) (h4 : ix sp + ix q ≤ n0) (h5 : ix dp + ix q ≤ n1) (hr : 1 ≤ rm.frames ∧ (st.map fun v => v.category).sum + 40 ≤ rm.locals) (h : ∀ M', M' = ur L k1 (va_cpy (L k0) (L k1) (ix sp) (ix dp) (ix q)) → X E l rm y cc nL ret Xt Zf (pc + 3) ls (st) (n) (I) (M') (R) (cl) (sl)) : X E l rm y cc nL ret Xt Zf (pc) ls (.int q :: .int dp :: .ref k1 :: .int sp :: .ref k0 :: st) (n) (I) (L) (R) (cl) (sl) := by
  intro p e s m args below meth c hC H locs la hD hl
  refine va_copyl hC.1 hC.2.1 (hC.2.2.2.1.trans hl.1.symm) hC.own (hC.wd hw) (hC.wd wd_acN) (hC.wd wd_acS) (hC.wd wd_iSys) hC.K hD.1 hD.D hD.rf k0 k1 1 1 (Om_arr1 hk0 hs0) (Om_arr1 hk1 hs1) rfl rfl rfl h1 h2 h3 h4 h5 (fun i _ => rfl) hr.1 (by rw [tv_cats]; exact Nat.le_trans (Nat.add_le_add_left ac_words _) hr.2) hd (fun H1 locs1 hP1 hD1 hS1 => ?_)
  rw [Om_row1 hk1 hs1] at hP1 hD1
  exact W_sz (fun hz => h _ rfl p e s m args below meth c hC H1 locs1 la (hD.put hP1 hD1 hS1 hz) hl)

theorem x_mmax {E : Ev} {l : Launch} {rm : Room} {y : MethodName} {cc : ByteArray} {nL : Nat} {ret : Option FieldType} {Xt : Array Value → State → Prop} {Zf : List Frame → Array Value → State → State → Prop} {pc : Nat} {ls : List (Nat × Value)} {st : List Value} {n : Nat} {I : MI} {L : ML} {R : MR} {cl sl : Nat} {idx : Nat} {x z : Int32} (hd : decode cc pc = .ok (.invokestatic idx, 3)) (hw : Cond.methodLink y.cls idx Lib.Math.max.name ∈ gt) (hr : 1 ≤ rm.frames ∧ (st.map fun v => v.category).sum + 13 ≤ rm.locals ∧ cl ≤ rm.cells ∧ sl ≤ rm.slots) (h : X E l rm y cc nL ret Xt Zf (pc + 3) ls (.int (if x < z then z else x) :: st) (n) (I) (L) (R) (cl) (sl)) : X E l rm y cc nL ret Xt Zf (pc) ls (.int z :: .int x :: st) (n) (I) (L) (R) (cl) (sl) := by
  intro p e s m args below meth c hC H locs la hD hl
  exact va_mmax hC.1 hC.2.1 (hC.2.2.2.1.trans hl.1.symm) hC.own (hC.wd hw) (hC.wd wd_mmaxS) (hC.wd wd_iMath) (hC.wd wd_mmaxC) hr.1 (by rw [tv_cats]; exact hr.2.1) hr.2.2.1 hr.2.2.2 hd (h p e s m args below meth c hC H locs la hD hl)

theorem x_mmin {E : Ev} {l : Launch} {rm : Room} {y : MethodName} {cc : ByteArray} {nL : Nat} {ret : Option FieldType} {Xt : Array Value → State → Prop} {Zf : List Frame → Array Value → State → State → Prop} {pc : Nat} {ls : List (Nat × Value)} {st : List Value} {n : Nat} {I : MI} {L : ML} {R : MR} {cl sl : Nat} {idx : Nat} {x z : Int32} (hd : decode cc pc = .ok (.invokestatic idx, 3)) (hw : Cond.methodLink y.cls idx Lib.Math.min.name ∈ gt) (hr : 1 ≤ rm.frames ∧ (st.map fun v => v.category).sum + 13 ≤ rm.locals ∧ cl ≤ rm.cells ∧ sl ≤ rm.slots) (h : X E l rm y cc nL ret Xt Zf (pc + 3) ls (.int (if z < x then z else x) :: st) (n) (I) (L) (R) (cl) (sl)) : X E l rm y cc nL ret Xt Zf (pc) ls (.int z :: .int x :: st) (n) (I) (L) (R) (cl) (sl) := by
  intro p e s m args below meth c hC H locs la hD hl
  exact va_mmin hC.1 hC.2.1 (hC.2.2.2.1.trans hl.1.symm) hC.own (hC.wd hw) (hC.wd wd_mminS) (hC.wd wd_iMath) (hC.wd wd_mminC) hr.1 (by rw [tv_cats]; exact hr.2.1) hr.2.2.1 hr.2.2.2 hd (h p e s m args below meth c hC H locs la hD hl)

theorem x_gets {E : Ev} {l : Launch} {rm : Room} {y : MethodName} {cc : ByteArray} {nL : Nat} {ret : Option FieldType} {Xt : Array Value → State → Prop} {Zf : List Frame → Array Value → State → State → Prop} {pc : Nat} {ls : List (Nat × Value)} {st : List Value} {n : Nat} {I : MI} {L : ML} {R : MR} {cl sl : Nat} {idx i : Nat} (hd : decode cc pc = .ok (.getstatic idx, 3)) (hi : i < 4) (hw : Cond.fieldLink y.cls idx "SparesHouse$Words" (wNam.getD i "") "[I" ∈ gt) (h : X E l rm y cc nL ret Xt Zf (pc + 3) ls (.ref (1000 + i) :: st) (n) (I) (L) (R) (cl) (sl)) : X E l rm y cc nL ret Xt Zf (pc) ls (st) (n) (I) (L) (R) (cl) (sl) := by
  intro p e s m args below meth c hC H locs la hD hl
  exact va_gets hC.1 hC.2.1 (hC.so.1 i hi).1 hD.S hC.own (hC.wd hw) (fun _ h => h) hd (h p e s m args below meth c hC H locs la hD hl)

theorem x_wald {E : Ev} {l : Launch} {rm : Room} {y : MethodName} {cc : ByteArray} {nL : Nat} {ret : Option FieldType} {Xt : Array Value → State → Prop} {Zf : List Frame → Array Value → State → State → Prop} {pc : Nat} {ls : List (Nat × Value)} {st : List Value} {n : Nat} {I : MI} {L : ML} {R : MR} {cl sl : Nat} {i : Nat} {j : Int32} {v : Int32} (hd : decode cc pc = .ok (.iaload, 1)) (hi : i < 4) (hj : vp_in j (wTab.getD i []).length) (h : X E l rm y cc nL ret Xt Zf (pc + 1) ls (.int ((wTab.getD i []).getD (ix j) 0) :: st) (n) (I) (L) (R) (cl) (sl)) : X E l rm y cc nL ret Xt Zf (pc) ls (.int j :: .ref (1000 + i) :: st) (n) (I) (L) (R) (cl) (sl) := by
  intro p e s m args below meth c hC H locs la hD hl
  obtain ⟨cell, c1, c2, c3, c4, c5, c6, c7⟩ := (hC.so.1 i hi).2.kept hD.S.2.1
  have hlt : ix j < (wTab.getD i []).length := Nat.not_le.mp fun q => hj (Or.inr q)
  have hsz : ¬ (j < 0 ∨ cell.slots.size ≤ ix j) := fun q => q.elim (fun q => hj (Or.inl q)) (fun q => by omega)
  exact W.iald (v := .int ((wTab.getD i []).getD (ix j) 0)) hC.1 hC.2.1 c1 c2 c3 hsz (c6 _ hlt) rfl rfl hd (h p e s m args below meth c hC H locs la hD hl)

theorem x_wlen {E : Ev} {l : Launch} {rm : Room} {y : MethodName} {cc : ByteArray} {nL : Nat} {ret : Option FieldType} {Xt : Array Value → State → Prop} {Zf : List Frame → Array Value → State → State → Prop} {pc : Nat} {ls : List (Nat × Value)} {st : List Value} {n : Nat} {I : MI} {L : ML} {R : MR} {cl sl : Nat} {i : Nat} {v : Int32} (hd : decode cc pc = .ok (.arraylength, 1)) (hi : i < 4) (hv : Int32.ofNat (wTab.getD i []).length = v) (h : X E l rm y cc nL ret Xt Zf (pc + 1) ls (.int v :: st) (n) (I) (L) (R) (cl) (sl)) : X E l rm y cc nL ret Xt Zf (pc) ls (.ref (1000 + i) :: st) (n) (I) (L) (R) (cl) (sl) := by
  intro p e s m args below meth c hC H locs la hD hl
  obtain ⟨cell, c1, c2, c3, c4, c5, c6, c7⟩ := (hC.so.1 i hi).2.kept hD.S.2.1
  exact W.alen (n := v) hC.1 hC.2.1 c1 c2 (by rw [← hv]; exact c5) rfl rfl hd (h p e s m args below meth c hC H locs la hD hl)

-- contracts
/-- a method's end in words of the memory -/
def QX (E : Ev) (mc : Nat) (Q : Option Value → Nat → MI → ML → MR → Prop) : Array Value → State → Outcome → State → Prop := fun _ st oc t =>
  (∃ (v : Option Value) (n : Nat) (I : MI) (L : ML) (R : MR), oc = .returned (v.map (tv E)) ∧ Q v n I L R ∧ va_P (eD E) vwC (Om E n I L R) t.heap ∧ va_D (eF E) (Om E n I L R) ∧ t.heap.size = eZ E + n ∧ st.heap.size + mc ≤ eZ E + n) ∧ va_F (eF E) st t
def BX (E : Ev) (n : Nat) (I : MI) (L : ML) (R : MR) (U : State) : Prop :=
  va_P (eD E) vwC (Om E n I L R) U.heap ∧ va_D (eF E) (Om E n I L R) ∧ va_K (eD E) vwC (tys E) U ∧ SO E U U.heap ∧ U.heap.size = eZ E + n ∧ ∀ k, k < 1000 → ad E k = eZ E + k
def MX (E : Ev) (l : Launch) (rm : Room) (y : MethodName) (cc : ByteArray) (nL : Nat) (ret : Option FieldType) (av : List Value) (n : Nat) (I : MI) (L : ML) (R : MR) (Q : Option Value → Nat → MI → ML → MR → Prop) : Prop :=
  Met l y (Cond.code y cc nL ret :: gt) rm (va_Pc (av.map (tv E)) (BX E n I L R)) (QX E rm.cells Q) rm.cells rm.slots (eF E)
abbrev noX : Array Value → State → Prop := fun _ _ => True
abbrev ZM (E : Ev) (rm : Room) (Q : Option Value → Nat → MI → ML → MR → Prop) : List Frame → Array Value → State → State → Prop := fun below args s => MQ below (QX E rm.cells Q) args s rm.cells rm.slots (eF E)
theorem MX_of {E : Ev} {l : Launch} {rm : Room} {y : MethodName} {cc : ByteArray} {nL : Nat} {ret : Option FieldType} {av : List Value} {n : Nat} {I : MI} {L : ML} {R : MR} {Q : Option Value → Nat → MI → ML → MR → Prop} {ls : List (Nat × Value)} (hy : plainName y.cls = true) (hn : (lg_sl av).length ≤ nL) (hls : lv_args 0 av = ls)
    (h : X E l rm y cc nL ret noX (ZM E rm Q) 0 ls [] n I L R 0 0) : MX E l rm y cc nL ret av n I L R Q := by
  refine Met.ofW (cc := cc) (maxL := nL) (ret := ret) hy rfl ?_
  intro p e s m args below meth c s₁ B hml hv
  obtain ⟨rfl, hP, hD, hK, hSO, hz, had⟩ := hv
  have hts := atoms_spec (ws := Cond.code y cc nL ret :: gt) B.pre
  have hl := lv_entry (av.map (tv E)) (n := nL) (by rw [show (lg_sl (av.map (tv E))).length = (lg_sl av).length from lg_len_tv E av]; exact hn)
  rw [lg_entry_eq]
  rw [lv_args_map, hls] at hl
  exact h p e s m _ below meth c ⟨B.exec, B.bytes, B.returns, hml, findClass_of_methodNamed B.named, fun w hw => hts w (List.mem_cons_of_mem _ hw), B.notSynchronized, fun _ => (name_of_methodNamed B.named B.method).1, hK, hSO, by rw [hz]; exact Nat.le_add_right _ _, had, trivial⟩ s.heap [] _ ⟨hP, hD, va_S.rf, hz, by rw [hz]; exact Nat.le_refl _⟩ hl
section RET
variable {E : Ev} {l : Launch} {rm : Room} {y : MethodName} {cc : ByteArray} {nL : Nat} {Q : Option Value → Nat → MI → ML → MR → Prop} {pc : Nat} {ls : List (Nat × Value)} {n : Nat} {I : MI} {L : ML} {R : MR}
theorem x_ireturn {v : Int32} (hd : decode cc pc = .ok (.ireturn, 1)) (h : Q (some (.int v)) n I L R) : X E l rm y cc nL (some .int) noX (ZM E rm Q) pc ls [.int v] n I L R rm.cells rm.slots := by
  intro p e s m args below meth c hC H locs la hD hl
  exact W.iret (v := v) hC.1 hC.2.1 hC.2.2.1 (fun t ht hW => ⟨⟨some (.int v), n, I, L, R, rfl, h, by rw [ht]; exact hD.1, hD.2.1, by rw [ht]; exact hD.2.2.2.1, hD.2.2.2.2⟩, hD.S.F ht⟩) hD.S.2.2 hd hC.lk
theorem x_zreturn {v : Int32} (hd : decode cc pc = .ok (.ireturn, 1)) (hv : narrow .boolean (.int v) = .int v) (h : Q (some (.int v)) n I L R) : X E l rm y cc nL (some .boolean) noX (ZM E rm Q) pc ls [.int v] n I L R rm.cells rm.slots := by
  intro p e s m args below meth c hC H locs la hD hl
  exact W.zret (v := v) hC.1 hC.2.1 hC.2.2.1 hv (fun t ht hW => ⟨⟨some (.int v), n, I, L, R, rfl, h, by rw [ht]; exact hD.1, hD.2.1, by rw [ht]; exact hD.2.2.2.1, hD.2.2.2.2⟩, hD.S.F ht⟩) hD.S.2.2 hd hC.lk
theorem x_lreturn {v : Int64} (hd : decode cc pc = .ok (.lreturn, 1)) (h : Q (some (.long v)) n I L R) : X E l rm y cc nL (some .long) noX (ZM E rm Q) pc ls [.long v] n I L R rm.cells rm.slots := by
  intro p e s m args below meth c hC H locs la hD hl
  exact W.lret (v := v) hC.1 hC.2.1 hC.2.2.1 (fun t ht hW => ⟨⟨some (.long v), n, I, L, R, rfl, h, by rw [ht]; exact hD.1, hD.2.1, by rw [ht]; exact hD.2.2.2.1, hD.2.2.2.2⟩, hD.S.F ht⟩) hD.S.2.2 hd hC.lk
theorem x_areturn {v : Nat} {C : String} (hd : decode cc pc = .ok (.areturn, 1)) (h : Q (some (.ref v)) n I L R) : X E l rm y cc nL (some (.object C)) noX (ZM E rm Q) pc ls [.ref v] n I L R rm.cells rm.slots := by
  intro p e s m args below meth c hC H locs la hD hl
  exact W.aret (v := .ref (ad E v)) hC.1 hC.2.1 hC.2.2.1 (Or.inl ⟨_, rfl⟩) (Or.inr ⟨_, rfl⟩) (fun t ht hW => ⟨⟨some (.ref v), n, I, L, R, rfl, h, by rw [ht]; exact hD.1, hD.2.1, by rw [ht]; exact hD.2.2.2.1, hD.2.2.2.2⟩, hD.S.F ht⟩) hD.S.2.2 hd hC.lk
theorem x_return (hd : decode cc pc = .ok (.return_, 1)) (h : Q none n I L R) : X E l rm y cc nL none noX (ZM E rm Q) pc ls [] n I L R rm.cells rm.slots := by
  intro p e s m args below meth c hC H locs la hD hl
  exact W.vret hC.1 hC.2.1 hC.2.2.1 (fun t ht hW => ⟨⟨none, n, I, L, R, rfl, h, by rw [ht]; exact hD.1, hD.2.1, by rw [ht]; exact hD.2.2.2.1, hD.2.2.2.2⟩, hD.S.F ht⟩) hD.S.2.2 hd hC.lk
end RET

-- calls
theorem BX_blind {E : Ev} {av : List Value} {n : Nat} {I : MI} {L : ML} {R : MR} : FrameBlind (va_Pc av (BX E n I L R)) := fun a U g mk q => by
  obtain ⟨q0, qP, qD, qK, qS, qz, qa⟩ := q
  exact ⟨q0, qP, qD, va_K.moved (u := U) (U := U.calling g mk a) (Vm.Alike.refl U.vm) qK, SO.same (u := U) (U := U.calling g mk a) rfl qS, qz, qa⟩
section CALL
variable {E : Ev} {l : Launch} {rm rm' : Room} {y y' : MethodName} {cc cc' : ByteArray} {nL nL' : Nat} {ret ret' : Option FieldType} {Xt : Array Value → State → Prop} {Zf : List Frame → Array Value → State → State → Prop} {pc : Nat} {ls : List (Nat × Value)} {sk st : List Value} {n : Nat} {I : MI} {L : ML} {R : MR} {cl sl idx k ci na : Nat} {Q' : Option Value → Nat → MI → ML → MR → Prop}
theorem BX_pre {p : Program} {s : State} {m : MethodId} {args : Array Value} {meth : Method} {c : Code} {H : Heap} {locs : List Loc} (hC : Cx E Xt p s m args meth c y cc nL ret) (hD : Dx E n I L R s H locs cl) (av : List Value) : ∀ U : State, U.heap = H → s.WarmedH U.vm → va_Pc av (BX E n I L R) av.toArray U := fun U hU hW =>
  ⟨rfl, by rw [hU]; exact hD.1, hD.2.1, va_K.moved hW.alike hC.K, by rw [hU]; exact (hC.so.kept hD.S.2.1).warm hW, by rw [hU]; exact hD.2.2.2.1, hC.ad⟩
theorem x_back {p : Program} {e : Env} {s : State} {m : MethodId} {args : Array Value} {below : List Frame} {meth : Method} {c : Code} {H : Heap} {locs : List Loc} {la : Array Slot} {sk2 : List Value} {a : Array Value} {mc ms : Nat} (hC : Cx E Xt p s m args meth c y cc nL ret) (hD : Dx E n I L R s H locs cl) (hl : lv_has la nL (ls.map (tq E)))
    (hr : va_Run p l e rm s m args below meth c H locs cl sl mc ms (F0 m pc la sk2) (st.map (tv E)) (QX E mc Q' a) (eF E))
    (h : ∀ v n' I' L' R', Q' v n' I' L' R' → X E l rm y cc nL ret Xt Zf (pc + 3) ls (v.toList ++ st) n' I' L' R' (cl + mc) (sl + ms)) : W p l e rm s m args below meth c H locs cl sl (Zf below args s) (F0 m pc la sk2) := by
  intro T hT X0
  obtain ⟨v, st₀, t, T', L0, h0, X', hL, e1, e2, ⟨⟨w, n', I', L', R', hv, hq, hP', hD', hsz', hti'⟩, hz, hk⟩, stp⟩ := hr T hT X0
  have hv2 : v = w.map (tv E) := by injection hv
  subst hv2
  rw [h0] at hz hk hti'
  have hS' : va_S (eF E) s.heap T'.heap (locs ++ L0) := ⟨Nat.le_trans hD.S.1 (by rw [e1]; exact hz), fun q h1 h2 => by rw [e1, hk q (Nat.lt_of_lt_of_le h1 hD.S.1) h2]; exact hD.S.2.1 q h1 h2, fun q hq => by
      rcases List.mem_append.mp hq with h | h
      · exact hD.S.2.2 q h
      · exact hL q h⟩
  obtain ⟨t2, a1, b1⟩ := h w n' I' L' R' hq p e s m args below meth c hC T'.heap (locs ++ L0) la ⟨by rw [e1]; exact hP', hD', hS', by rw [e1]; exact hsz', by have h1 := hD.2.2.2.1; have h2 := hD.2.2.2.2; omega⟩ hl T' rfl X'
  refine ⟨t2, stp t2 ?_, b1⟩
  have e3 : (w.map (tv E)).toList ++ st.map (tv E) = (w.toList ++ st).map (tv E) := by cases w <;> simp
  show Steps p.tables e below (T'.setTop (F0 m (pc + 3) la ((w.map (tv E)).toList ++ st.map (tv E)))) t2
  rw [e3]
  exact a1
theorem x_cb {R0 : Room} {s : State} {args : Array Value} (hts : ∀ w ∈ gt, w.before args s = true) (hlk : Cond.methodLink y.cls idx y' ∈ gt) (hc : Cal y' cc' nL' ret' na) (hR : rm'.frames + 1 ≤ R0.frames ∧ 8 + (nL' + 11) + rm'.locals ≤ R0.locals) : CallB R0 s args y.cls idx y' cc' nL' ret' (Cond.code y' cc' nL' ret' :: gt) rm' rm'.cells rm'.slots na :=
  callB_of na hts (gt_good (fun w hw => (List.mem_cons.mp hw).elim (fun e => e ▸ hc.1) id)) rfl rfl rfl (hts _ hc.2.1) (hts _ hlk) hc.2.2 hR
theorem x_cn {R0 : Room} {s : State} {args : Array Value} {host : String} (hts : ∀ w ∈ gt, w.before args s = true) (hlk : va_Nw (.methodLinkNest y.cls idx y' host) s) (hc : Cal y' cc' nL' ret' na) (hR : rm'.frames + 1 ≤ R0.frames ∧ 8 + (nL' + 11) + rm'.locals ≤ R0.locals) : va_CN R0 s args y.cls idx y' host cc' nL' ret' (Cond.code y' cc' nL' ret' :: gt) rm' rm'.cells rm'.slots na :=
  ⟨⟨rfl, rfl, hR.1, hR.2, pay_in hts (gt_good (fun w hw => (List.mem_cons.mp hw).elim (fun e => e ▸ hc.1) id)), List.mem_cons_self⟩, hts _ hc.1, hts _ hc.2.1, ⟨hc.2.2.1, hc.2.2.2.1⟩, fun sig h => by
    have h2 := hc.2.2.2.2
    rw [h] at h2
    exact (Option.some.inj h2).symm, va_Nw.use rfl hlk⟩
theorem x_callV (av : List Value) (hM : MX E l rm' y' cc' nL' ret' (.ref k :: av) n I L R Q') (hd : decode cc pc = .ok (.invokevirtual idx, 3)) (hlk : Cond.methodLink y.cls idx y' ∈ gt) (hc : Cal y' cc' nL' ret' na) (hi : Cond.instanceMethod y' ∈ gt ∧ Cond.selects y'.cls y' y' ∈ gt) (hk : k < n) (hs : sh k = .inl ci) (hci : ∃ q, vwC[ci]? = some q ∧ q.1 = y'.cls) (hn : av.length = na) (hst : sk = av.reverse ++ .ref k :: st) (hw : (st.map fun v => v.category).sum ≤ 8) (hR : (rm'.frames + 1 ≤ rm.frames ∧ 8 + (nL' + 11) + rm'.locals ≤ rm.locals) ∧ cl + rm'.cells ≤ rm.cells ∧ sl + rm'.slots ≤ rm.slots)
    (h : ∀ v n' I' L' R', Q' v n' I' L' R' → X E l rm y cc nL ret Xt Zf (pc + 3) ls (v.toList ++ st) n' I' L' R' (cl + rm'.cells) (sl + rm'.slots)) : X E l rm y cc nL ret Xt Zf pc ls sk n I L R cl sl := by
  intro p e s m args below meth c hC H locs la hD hl
  subst hst
  obtain ⟨q, hq1, hq2⟩ := hci
  refine x_back hC hD hl (va_runV (As := av.map (tv E)) (b := ad E k) ⟨hC.1, hC.2.1, hC.2.2.2.1, hC.own, hC.ts⟩ hM ⟨x_cb hC.ts hlk hc hR.1, hC.wd hi.1, hC.wd hi.2⟩ ⟨BX_blind, ?_, ?_⟩ rfl (by rw [List.length_map]; exact hn) hl.1 (by simp [tv]) (lv_room (by rw [tv_cats]; exact hw)) hd hR.2) h
  · rw [← hq2]
    exact va_recv hC.K hD.1 hq1 (Om_obj hk hs)
  · exact BX_pre hC hD _
theorem x_callS (av : List Value) (hM : MX E l rm' y' cc' nL' ret' av n I L R Q') (hd : decode cc pc = .ok (.invokestatic idx, 3)) (hlk : Cond.methodLink y.cls idx y' ∈ gt) (hc : Cal y' cc' nL' ret' na) (hi : Cond.static y' ∈ gt) (hn : av.length = na) (hst : sk = av.reverse ++ st) (hw : (st.map fun v => v.category).sum ≤ 8) (hR : (rm'.frames + 1 ≤ rm.frames ∧ 8 + (nL' + 11) + rm'.locals ≤ rm.locals) ∧ cl + rm'.cells ≤ rm.cells ∧ sl + rm'.slots ≤ rm.slots)
    (h : ∀ v n' I' L' R', Q' v n' I' L' R' → X E l rm y cc nL ret Xt Zf (pc + 3) ls (v.toList ++ st) n' I' L' R' (cl + rm'.cells) (sl + rm'.slots)) : X E l rm y cc nL ret Xt Zf pc ls sk n I L R cl sl := by
  intro p e s m args below meth c hC H locs la hD hl
  subst hst
  exact x_back hC hD hl (va_runS (As := av.map (tv E)) ⟨hC.1, hC.2.1, hC.2.2.2.1, hC.own, hC.ts⟩ hM ⟨x_cb hC.ts hlk hc hR.1, hC.wd hi⟩ ⟨BX_blind, BX_pre hC hD _⟩ rfl (by rw [List.length_map]; exact hn) hl.1 (by simp) (lv_room (by rw [tv_cats]; exact hw)) hd hR.2) h
theorem x_callSN {host : String} (av : List Value) (hM : MX E l rm' y' cc' nL' ret' av n I L R Q') (hd : decode cc pc = .ok (.invokestatic idx, 3)) (hlk : Cond.methodLinkNest y.cls idx y' host ∈ lw_tbl) (hc : Cal y' cc' nL' ret' na) (hi : Cond.static y' ∈ gt) (hn : av.length = na) (hst : sk = av.reverse ++ st) (hw : (st.map fun v => v.category).sum ≤ 8) (hR : (rm'.frames + 1 ≤ rm.frames ∧ 8 + (nL' + 11) + rm'.locals ≤ rm.locals) ∧ cl + rm'.cells ≤ rm.cells ∧ sl + rm'.slots ≤ rm.slots)
    (h : ∀ v n' I' L' R', Q' v n' I' L' R' → X E l rm y cc nL ret Xt Zf (pc + 3) ls (v.toList ++ st) n' I' L' R' (cl + rm'.cells) (sl + rm'.slots)) : X E l rm y cc nL ret Xt Zf pc ls sk n I L R cl sl := by
  intro p e s m args below meth c hC H locs la hD hl
  subst hst
  exact x_back hC hD hl (va_runSN (As := av.map (tv E)) ⟨hC.1, hC.2.1, hC.2.2.2.1, hC.own, hC.ts⟩ hM ⟨x_cn hC.ts (hC.so.2.2.2.2.2.1 _ _ _ _ hlk) hc hR.1, hC.wd hi, trivial⟩ ⟨BX_blind, BX_pre hC hD _⟩ rfl (by rw [List.length_map]; exact hn) hl.1 (by simp) (lv_room (by rw [tv_cats]; exact hw)) hd hR.2) h
end CALL
