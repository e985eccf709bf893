abbrev MI : Type := Nat → Nat → Int32
abbrev ML : Type := Nat → Nat → Int64
abbrev MR : Type := Nat → Nat → Option Nat
abbrev Sh : Type := Nat ⊕ (Nat × Nat)
/-- an index as a natural number -/
abbrev ix (j : Int32) : Nat := j.toNatClampNeg
/-- one place of one row is another -/
def u2 {α : Type} (f : Nat → Nat → α) (k i : Nat) (v : α) : Nat → Nat → α := fun a => if a = k then (fun b => if b = i then v else f k b) else f a
/-- the cells in the order in which they are made: an object of a class (by its number), or an array (0 int, 1 long, 2 byte, 3 Play; its length) -/
def shL : List Sh := [.inl 7, .inr (2, 400), .inl 2, .inl 1, .inr (0, 4), .inr (0, 4), .inr (0, 4), .inr (0, 4), .inr (0, 4), .inr (0, 16), .inr (0, 16), .inr (0, 16), .inr (0, 16), .inr (0, 16), .inr (0, 16), .inr (0, 4), .inl 4, .inr (1, 184), .inl 4, .inr (1, 72), .inl 4, .inr (1, 184), .inl 4, .inr (1, 184), .inl 2, .inl 1, .inr (0, 4), .inr (0, 4), .inr (0, 4), .inr (0, 4), .inr (0, 4), .inr (0, 16), .inr (0, 16), .inr (0, 16), .inr (0, 16), .inr (0, 16), .inr (0, 16), .inr (0, 4), .inl 4, .inr (1, 184), .inl 4, .inr (1, 72), .inl 4, .inr (1, 184), .inl 4, .inr (1, 184), .inl 0, .inr (3, 12), .inl 2, .inl 1, .inr (0, 4), .inr (0, 4), .inr (0, 4), .inr (0, 4), .inr (0, 4), .inr (0, 16), .inr (0, 16), .inr (0, 16), .inr (0, 16), .inr (0, 16), .inr (0, 16), .inr (0, 4), .inl 4, .inr (1, 184), .inl 4, .inr (1, 72), .inl 4, .inr (1, 184), .inl 4, .inr (1, 184), .inl 2, .inl 1, .inr (0, 4), .inr (0, 4), .inr (0, 4), .inr (0, 4), .inr (0, 4), .inr (0, 16), .inr (0, 16), .inr (0, 16), .inr (0, 16), .inr (0, 16), .inr (0, 16), .inr (0, 4), .inl 4, .inr (1, 184), .inl 4, .inr (1, 72), .inl 4, .inr (1, 184), .inl 4, .inr (1, 184), .inl 2, .inl 1, .inr (0, 4), .inr (0, 4), .inr (0, 4), .inr (0, 4), .inr (0, 4), .inr (0, 16), .inr (0, 16), .inr (0, 16), .inr (0, 16), .inr (0, 16), .inr (0, 16), .inr (0, 4), .inl 4, .inr (1, 184), .inl 4, .inr (1, 72), .inl 4, .inr (1, 184), .inl 4, .inr (1, 184), .inl 2, .inl 1, .inr (0, 4), .inr (0, 4), .inr (0, 4), .inr (0, 4), .inr (0, 4), .inr (0, 16), .inr (0, 16), .inr (0, 16), .inr (0, 16), .inr (0, 16), .inr (0, 16), .inr (0, 4), .inl 4, .inr (1, 184), .inl 4, .inr (1, 72), .inl 4, .inr (1, 184), .inl 4, .inr (1, 184), .inl 2, .inl 1, .inr (0, 4), .inr (0, 4), .inr (0, 4), .inr (0, 4), .inr (0, 4), .inr (0, 16), .inr (0, 16), .inr (0, 16), .inr (0, 16), .inr (0, 16), .inr (0, 16), .inr (0, 4), .inl 4, .inr (1, 184), .inl 4, .inr (1, 72), .inl 4, .inr (1, 184), .inl 4, .inr (1, 184), .inl 2, .inl 1, .inr (0, 4), .inr (0, 4), .inr (0, 4), .inr (0, 4), .inr (0, 4), .inr (0, 16), .inr (0, 16), .inr (0, 16), .inr (0, 16), .inr (0, 16), .inr (0, 16), .inr (0, 4), .inl 4, .inr (1, 184), .inl 4, .inr (1, 72), .inl 4, .inr (1, 184), .inl 4, .inr (1, 184), .inl 2, .inl 1, .inr (0, 4), .inr (0, 4), .inr (0, 4), .inr (0, 4), .inr (0, 4), .inr (0, 16), .inr (0, 16), .inr (0, 16), .inr (0, 16), .inr (0, 16), .inr (0, 16), .inr (0, 4), .inl 4, .inr (1, 184), .inl 4, .inr (1, 72), .inl 4, .inr (1, 184), .inl 4, .inr (1, 184), .inl 2, .inl 1, .inr (0, 4), .inr (0, 4), .inr (0, 4), .inr (0, 4), .inr (0, 4), .inr (0, 16), .inr (0, 16), .inr (0, 16), .inr (0, 16), .inr (0, 16), .inr (0, 16), .inr (0, 4), .inl 4, .inr (1, 184), .inl 4, .inr (1, 72), .inl 4, .inr (1, 184), .inl 4, .inr (1, 184), .inl 2, .inl 1, .inr (0, 4), .inr (0, 4), .inr (0, 4), .inr (0, 4), .inr (0, 4), .inr (0, 16), .inr (0, 16), .inr (0, 16), .inr (0, 16), .inr (0, 16), .inr (0, 16), .inr (0, 4), .inl 4, .inr (1, 184), .inl 4, .inr (1, 72), .inl 4, .inr (1, 184), .inl 4, .inr (1, 184), .inl 2, .inl 1, .inr (0, 4), .inr (0, 4), .inr (0, 4), .inr (0, 4), .inr (0, 4), .inr (0, 16), .inr (0, 16), .inr (0, 16), .inr (0, 16), .inr (0, 16), .inr (0, 16), .inr (0, 4), .inl 4, .inr (1, 184), .inl 4, .inr (1, 72), .inl 4, .inr (1, 184), .inl 4, .inr (1, 184), .inl 2, .inl 1, .inr (0, 4), .inr (0, 4), .inr (0, 4), .inr (0, 4), .inr (0, 4), .inr (0, 16), .inr (0, 16), .inr (0, 16), .inr (0, 16), .inr (0, 16), .inr (0, 16), .inr (0, 4), .inl 4, .inr (1, 184), .inl 4, .inr (1, 72), .inl 4, .inr (1, 184), .inl 4, .inr (1, 184), .inl 2, .inl 1, .inr (0, 4), .inr (0, 4), .inr (0, 4), .inr (0, 4), .inr (0, 4), .inr (0, 16), .inr (0, 16), .inr (0, 16), .inr (0, 16), .inr (0, 16), .inr (0, 16), .inr (0, 4), .inl 4, .inr (1, 184), .inl 4, .inr (1, 72), .inl 4, .inr (1, 184), .inl 4, .inr (1, 184), .inl 3, .inl 1, .inr (0, 4), .inr (0, 4), .inr (0, 4), .inr (0, 4), .inr (0, 4), .inr (0, 16), .inr (0, 16), .inr (0, 16), .inr (0, 5), .inr (2, 0), .inl 5, .inr (2, 256), .inl 6, .inr (1, 144), .inr (1, 160), .inr (0, 72), .inr (0, 72), .inr (0, 72), .inr (0, 16), .inr (1, 1000), .inr (0, 1000), .inr (0, 900), .inl 8, .inr (0, 2212), .inr (0, 2212), .inr (0, 26544), .inr (0, 400), .inr (0, 90), .inr (0, 90), .inr (0, 90), .inr (0, 9), .inr (1, 1000), .inr (0, 1000), .inr (0, 1000), .inr (0, 500)]
def sh (k : Nat) : Sh := shL.getD k (.inl 99)
/-- the cells that references hold; the reader's bytes are told by R alone -/
def rtL : List (Nat × Nat × Nat) := [(0, 0, 1), (0, 2, 2), (0, 3, 24), (0, 4, 46), (0, 5, 312), (0, 6, 324), (0, 7, 326), (2, 0, 3), (2, 1, 12), (2, 2, 13), (2, 3, 14), (2, 4, 15), (2, 5, 16), (2, 6, 18), (2, 7, 20), (2, 8, 22), (3, 5, 4), (3, 6, 5), (3, 7, 6), (3, 8, 7), (3, 9, 8), (3, 10, 9), (3, 11, 10), (3, 12, 11), (16, 0, 17), (18, 0, 19), (20, 0, 21), (22, 0, 23), (24, 0, 25), (24, 1, 34), (24, 2, 35), (24, 3, 36), (24, 4, 37), (24, 5, 38), (24, 6, 40), (24, 7, 42), (24, 8, 44), (25, 5, 26), (25, 6, 27), (25, 7, 28), (25, 8, 29), (25, 9, 30), (25, 10, 31), (25, 11, 32), (25, 12, 33), (38, 0, 39), (40, 0, 41), (42, 0, 43), (44, 0, 45), (46, 0, 47), (47, 0, 48), (47, 1, 70), (47, 2, 92), (47, 3, 114), (47, 4, 136), (47, 5, 158), (47, 6, 180), (47, 7, 202), (47, 8, 224), (47, 9, 246), (47, 10, 268), (47, 11, 290), (48, 0, 49), (48, 1, 58), (48, 2, 59), (48, 3, 60), (48, 4, 61), (48, 5, 62), (48, 6, 64), (48, 7, 66), (48, 8, 68), (49, 5, 50), (49, 6, 51), (49, 7, 52), (49, 8, 53), (49, 9, 54), (49, 10, 55), (49, 11, 56), (49, 12, 57), (62, 0, 63), (64, 0, 65), (66, 0, 67), (68, 0, 69), (70, 0, 71), (70, 1, 80), (70, 2, 81), (70, 3, 82), (70, 4, 83), (70, 5, 84), (70, 6, 86), (70, 7, 88), (70, 8, 90), (71, 5, 72), (71, 6, 73), (71, 7, 74), (71, 8, 75), (71, 9, 76), (71, 10, 77), (71, 11, 78), (71, 12, 79), (84, 0, 85), (86, 0, 87), (88, 0, 89), (90, 0, 91), (92, 0, 93), (92, 1, 102), (92, 2, 103), (92, 3, 104), (92, 4, 105), (92, 5, 106), (92, 6, 108), (92, 7, 110), (92, 8, 112), (93, 5, 94), (93, 6, 95), (93, 7, 96), (93, 8, 97), (93, 9, 98), (93, 10, 99), (93, 11, 100), (93, 12, 101), (106, 0, 107), (108, 0, 109), (110, 0, 111), (112, 0, 113), (114, 0, 115), (114, 1, 124), (114, 2, 125), (114, 3, 126), (114, 4, 127), (114, 5, 128), (114, 6, 130), (114, 7, 132), (114, 8, 134), (115, 5, 116), (115, 6, 117), (115, 7, 118), (115, 8, 119), (115, 9, 120), (115, 10, 121), (115, 11, 122), (115, 12, 123), (128, 0, 129), (130, 0, 131), (132, 0, 133), (134, 0, 135), (136, 0, 137), (136, 1, 146), (136, 2, 147), (136, 3, 148), (136, 4, 149), (136, 5, 150), (136, 6, 152), (136, 7, 154), (136, 8, 156), (137, 5, 138), (137, 6, 139), (137, 7, 140), (137, 8, 141), (137, 9, 142), (137, 10, 143), (137, 11, 144), (137, 12, 145), (150, 0, 151), (152, 0, 153), (154, 0, 155), (156, 0, 157), (158, 0, 159), (158, 1, 168), (158, 2, 169), (158, 3, 170), (158, 4, 171), (158, 5, 172), (158, 6, 174), (158, 7, 176), (158, 8, 178), (159, 5, 160), (159, 6, 161), (159, 7, 162), (159, 8, 163), (159, 9, 164), (159, 10, 165), (159, 11, 166), (159, 12, 167), (172, 0, 173), (174, 0, 175), (176, 0, 177), (178, 0, 179), (180, 0, 181), (180, 1, 190), (180, 2, 191), (180, 3, 192), (180, 4, 193), (180, 5, 194), (180, 6, 196), (180, 7, 198), (180, 8, 200), (181, 5, 182), (181, 6, 183), (181, 7, 184), (181, 8, 185), (181, 9, 186), (181, 10, 187), (181, 11, 188), (181, 12, 189), (194, 0, 195), (196, 0, 197), (198, 0, 199), (200, 0, 201), (202, 0, 203), (202, 1, 212), (202, 2, 213), (202, 3, 214), (202, 4, 215), (202, 5, 216), (202, 6, 218), (202, 7, 220), (202, 8, 222), (203, 5, 204), (203, 6, 205), (203, 7, 206), (203, 8, 207), (203, 9, 208), (203, 10, 209), (203, 11, 210), (203, 12, 211), (216, 0, 217), (218, 0, 219), (220, 0, 221), (222, 0, 223), (224, 0, 225), (224, 1, 234), (224, 2, 235), (224, 3, 236), (224, 4, 237), (224, 5, 238), (224, 6, 240), (224, 7, 242), (224, 8, 244), (225, 5, 226), (225, 6, 227), (225, 7, 228), (225, 8, 229), (225, 9, 230), (225, 10, 231), (225, 11, 232), (225, 12, 233), (238, 0, 239), (240, 0, 241), (242, 0, 243), (244, 0, 245), (246, 0, 247), (246, 1, 256), (246, 2, 257), (246, 3, 258), (246, 4, 259), (246, 5, 260), (246, 6, 262), (246, 7, 264), (246, 8, 266), (247, 5, 248), (247, 6, 249), (247, 7, 250), (247, 8, 251), (247, 9, 252), (247, 10, 253), (247, 11, 254), (247, 12, 255), (260, 0, 261), (262, 0, 263), (264, 0, 265), (266, 0, 267), (268, 0, 269), (268, 1, 278), (268, 2, 279), (268, 3, 280), (268, 4, 281), (268, 5, 282), (268, 6, 284), (268, 7, 286), (268, 8, 288), (269, 5, 270), (269, 6, 271), (269, 7, 272), (269, 8, 273), (269, 9, 274), (269, 10, 275), (269, 11, 276), (269, 12, 277), (282, 0, 283), (284, 0, 285), (286, 0, 287), (288, 0, 289), (290, 0, 291), (290, 1, 300), (290, 2, 301), (290, 3, 302), (290, 4, 303), (290, 5, 304), (290, 6, 306), (290, 7, 308), (290, 8, 310), (291, 5, 292), (291, 6, 293), (291, 7, 294), (291, 8, 295), (291, 9, 296), (291, 10, 297), (291, 11, 298), (291, 12, 299), (304, 0, 305), (306, 0, 307), (308, 0, 309), (310, 0, 311), (312, 0, 313), (312, 1, 322), (313, 5, 314), (313, 6, 315), (313, 7, 316), (313, 8, 317), (313, 9, 318), (313, 10, 319), (313, 11, 320), (313, 12, 321), (324, 0, 325), (326, 0, 327), (326, 1, 328), (326, 2, 329), (326, 3, 330), (326, 4, 331), (326, 6, 332), (326, 7, 333), (326, 8, 334), (326, 9, 335), (336, 1, 337), (336, 2, 338), (336, 3, 339), (336, 5, 340), (336, 14, 341), (336, 15, 342), (336, 16, 343), (336, 17, 344), (336, 19, 345), (336, 20, 346), (336, 21, 347), (336, 22, 348)]
def plays : List Nat := [2, 24, 48, 70, 92, 114, 136, 158, 180, 202, 224, 246, 268, 290]
/-- what the proofs don't know of the launch: class numbers, slots, array classes, where the system's cells begin, where constants lie -/
abbrev Ev : Type := (Nat → ClassId) × (Nat → Nat → Nat) × (Nat → ClassId) × Nat × (Nat → Nat)
abbrev eD (E : Ev) : va_G := (E.1, E.2.1)
abbrev eA (E : Ev) (t : Nat) : ClassId := E.2.2.1 t
abbrev eZ (E : Ev) : Nat := E.2.2.2.1
abbrev ad (E : Ev) (k : Nat) : Nat := E.2.2.2.2 k
def eF (E : Ev) : Nat → Prop := fun q => eZ E ≤ q
abbrev tys (E : Ev) : List (ClassId × FieldType) := [(eA E 0, .int), (eA E 1, .long), (eA E 2, .byte), (eA E 3, .object "SparesHouse$Play")]
def tv (E : Ev) : Value → Value
  | .ref k => .ref (ad E k)
  | v => v
abbrev tq (E : Ev) (q : Nat × Value) : Nat × Value := (q.1, tv E q.2)
theorem tv_cat (E : Ev) (v : Value) : (tv E v).category = v.category := by cases v <;> rfl
-- cells
def fv (E : Ev) (f : Nat → Int32) (r : Nat → Option Nat) (i : Nat) (b : Bool) : Value := match b with
  | true => va_rf ((r i).map (ad E))
  | false => .int (f i)
def fvs (E : Ev) (f : Nat → Int32) (r : Nat → Option Nat) (ci : Nat) : List Value := (fk ci).zipIdx.map (fun q => fv E f r q.2 q.1)
def cE (E : Ev) (f : Nat → Int32) (g : Nat → Int64) (r : Nat → Option Nat) (s : Sh) : va_E := match s with
  | .inl ci => .inr (ci, fvs E f r ci)
  | .inr (t, n) => .inl (eA E t, n, match t with
    | 1 => .inr (.inl g)
    | 3 => .inr (.inr (.inr (.inr (fun i => (r i).map (ad E)))))
    | _ => .inl f)
def Om (E : Ev) (n : Nat) (I : MI) (L : ML) (R : MR) : va_W := (List.range n).map (fun k => (ad E k, cE E (I k) (L k) (R k) (sh k)))
theorem Om_get {E : Ev} {n : Nat} {I : MI} {L : ML} {R : MR} {k : Nat} (hk : k < n) : (Om E n I L R)[k]? = some (ad E k, cE E (I k) (L k) (R k) (sh k)) := by
  simp [Om, hk]
theorem Om_inv {E : Ev} {n : Nat} {I : MI} {L : ML} {R : MR} {k : Nat} {q : Nat × va_E} (h : (Om E n I L R)[k]? = some q) : k < n ∧ q = (ad E k, cE E (I k) (L k) (R k) (sh k)) := by
  by_cases hk : k < n
  · rw [Om_get hk] at h
    exact ⟨hk, (Option.some.inj h).symm⟩
  · simp [Om, hk] at h
theorem Om_set {E : Ev} {n : Nat} {I I' : MI} {L L' : ML} {R R' : MR} {k : Nat} {w : va_E} (hk : k < n) (hI : ∀ j, j ≠ k → I' j = I j) (hL : ∀ j, j ≠ k → L' j = L j) (hR : ∀ j, j ≠ k → R' j = R j) (hw : cE E (I' k) (L' k) (R' k) (sh k) = w) : (Om E n I L R).set k (ad E k, w) = Om E n I' L' R' := by
  apply List.ext_getElem?
  intro j
  by_cases hj : j = k
  · subst hj
    rw [List.getElem?_set_self (by simp [Om, hk]), Om_get hk, hw]
  · rw [List.getElem?_set_ne (fun q => hj q.symm)]
    by_cases hjn : j < n
    · rw [Om_get hjn, Om_get hjn, hI j hj, hL j hj, hR j hj]
    · simp [Om, hjn]
theorem u2_self {α : Type} {f : Nat → Nat → α} {k i : Nat} {v : α} : u2 f k i v k = (fun b => if b = i then v else f k b) := by simp [u2]
theorem u2_ne {α : Type} {f : Nat → Nat → α} {k i j : Nat} {v : α} (h : j ≠ k) : u2 f k i v j = f j := by simp [u2, h]
theorem u2_s {α : Type} {f : Nat → Nat → α} {k i : Nat} {v : α} : u2 f k i v k i = v := by simp [u2]
theorem u2_n2 {α : Type} {f : Nat → Nat → α} {k i b : Nat} {v : α} (h : b ≠ i) : u2 f k i v k b = f k b := by simp [u2, h]
theorem fvs_at {E : Ev} {f : Nat → Int32} {r : Nat → Option Nat} {ci i : Nat} {b : Bool} (h : (fk ci)[i]? = some b) : (fvs E f r ci)[i]? = some (fv E f r i b) := by
  simp [fvs, h]
theorem fvs_i {E : Ev} {f : Nat → Int32} {r : Nat → Option Nat} {ci i : Nat} (h : (fk ci)[i]? = some false) : (fvs E f r ci)[i]? = some (.int (f i)) := fvs_at h
theorem fvs_r {E : Ev} {f : Nat → Int32} {r : Nat → Option Nat} {ci i j : Nat} (h : (fk ci)[i]? = some true) (hj : r i = some j) : (fvs E f r ci)[i]? = some (.ref (ad E j)) := by
  rw [fvs_at h]
  simp [fv, hj, va_rf]
theorem fvs_len {E : Ev} {f : Nat → Int32} {r : Nat → Option Nat} {ci i : Nat} {b : Bool} (h : (fk ci)[i]? = some b) : i < (fvs E f r ci).length := (List.getElem?_eq_some_iff.mp (fvs_at h)).1
theorem fvs_seti {E : Ev} {f : Nat → Int32} {r : Nat → Option Nat} {ci i : Nat} {v : Int32} (h : (fk ci)[i]? = some false) : fvs E (fun b => if b = i then v else f b) r ci = (fvs E f r ci).set i (.int v) := by
  apply List.ext_getElem?
  intro j
  by_cases hj : j = i
  · subst hj
    rw [List.getElem?_set_self (fvs_len h), fvs_i h]
    simp
  · rw [List.getElem?_set_ne (fun q => hj q.symm)]
    simp only [fvs, List.getElem?_map, List.getElem?_zipIdx]
    cases hb : (fk ci)[j]? with
    | none => simp
    | some b => cases b <;> simp [fv, hj]
theorem fvs_setr {E : Ev} {f : Nat → Int32} {r : Nat → Option Nat} {ci i t : Nat} (h : (fk ci)[i]? = some true) : fvs E f (fun b => if b = i then some t else r b) ci = (fvs E f r ci).set i (.ref (ad E t)) := by
  apply List.ext_getElem?
  intro j
  by_cases hj : j = i
  · subst hj
    rw [List.getElem?_set_self (fvs_len h), fvs_at h]
    simp [fv, va_rf]
  · rw [List.getElem?_set_ne (fun q => hj q.symm)]
    simp only [fvs, List.getElem?_map, List.getElem?_zipIdx]
    cases hb : (fk ci)[j]? with
    | none => simp
    | some b => cases b <;> simp [fv, hj]
section OM
variable {E : Ev} {n : Nat} {I : MI} {L : ML} {R : MR} {k ci i N t : Nat}
theorem Om_obj (hk : k < n) (hs : sh k = .inl ci) : (Om E n I L R)[k]? = some (ad E k, .inr (ci, fvs E (I k) (R k) ci)) := by rw [Om_get hk, hs]; rfl
theorem Om_arr (hk : k < n) (hs : sh k = .inr (t, N)) : ∃ z, (Om E n I L R)[k]? = some (ad E k, .inl (eA E t, N, z)) := by rw [Om_get hk, hs]; exact ⟨_, rfl⟩
theorem Om_arr0 (hk : k < n) (hs : sh k = .inr (0, N)) : (Om E n I L R)[k]? = some (ad E k, .inl (eA E 0, N, .inl (I k))) := by rw [Om_get hk, hs]; rfl
theorem Om_arr1 (hk : k < n) (hs : sh k = .inr (1, N)) : (Om E n I L R)[k]? = some (ad E k, .inl (eA E 1, N, .inr (.inl (L k)))) := by rw [Om_get hk, hs]; rfl
theorem Om_arr2 (hk : k < n) (hs : sh k = .inr (2, N)) : (Om E n I L R)[k]? = some (ad E k, .inl (eA E 2, N, .inl (I k))) := by rw [Om_get hk, hs]; rfl
theorem Om_arr3 (hk : k < n) (hs : sh k = .inr (3, N)) : (Om E n I L R)[k]? = some (ad E k, .inl (eA E 3, N, .inr (.inr (.inr (.inr (fun i => (R k i).map (ad E))))))) := by rw [Om_get hk, hs]; rfl
theorem Om_puti {v : Int32} (hk : k < n) (hs : sh k = .inl ci) (hf : (fk ci)[i]? = some false) : (Om E n I L R).set k (ad E k, .inr (ci, (fvs E (I k) (R k) ci).set i (.int v))) = Om E n (u2 I k i v) L R :=
  Om_set hk (fun _ h => u2_ne h) (fun _ _ => rfl) (fun _ _ => rfl) (by rw [hs, u2_self]; show Sum.inr (ci, fvs E _ (R k) ci) = _; rw [fvs_seti hf])
theorem Om_putr {v : Nat} (hk : k < n) (hs : sh k = .inl ci) (hf : (fk ci)[i]? = some true) : (Om E n I L R).set k (ad E k, .inr (ci, (fvs E (I k) (R k) ci).set i (.ref (ad E v)))) = Om E n I L (u2 R k i (some v)) :=
  Om_set hk (fun _ _ => rfl) (fun _ _ => rfl) (fun _ h => u2_ne h) (by rw [hs, u2_self]; show Sum.inr (ci, fvs E (I k) _ ci) = _; rw [fvs_setr hf])
theorem Om_put0 {j v : Int32} (hk : k < n) (hs : sh k = .inr (0, N)) : (Om E n I L R).set k (ad E k, .inl (eA E 0, N, .inl (upd (I k) j.toNatClampNeg v))) = Om E n (u2 I k (ix j) v) L R :=
  Om_set hk (fun _ h => u2_ne h) (fun _ _ => rfl) (fun _ _ => rfl) (by rw [hs, u2_self]; rfl)
theorem Om_put2 {j v : Int32} (hk : k < n) (hs : sh k = .inr (2, N)) : (Om E n I L R).set k (ad E k, .inl (eA E 2, N, .inl (upd (I k) j.toNatClampNeg v))) = Om E n (u2 I k (ix j) v) L R :=
  Om_set hk (fun _ h => u2_ne h) (fun _ _ => rfl) (fun _ _ => rfl) (by rw [hs, u2_self]; rfl)
theorem Om_put1 {j : Int32} {v : Int64} (hk : k < n) (hs : sh k = .inr (1, N)) : (Om E n I L R).set k (ad E k, .inl (eA E 1, N, .inr (.inl (vp_updL (L k) j.toNatClampNeg v)))) = Om E n I (u2 L k (ix j) v) R :=
  Om_set hk (fun _ _ => rfl) (fun _ h => u2_ne h) (fun _ _ => rfl) (by rw [hs, u2_self]; rfl)
theorem Om_put3 {j : Int32} {v : Nat} (hk : k < n) (hs : sh k = .inr (3, N)) : (Om E n I L R).set k (ad E k, .inl (eA E 3, N, .inr (.inr (.inr (.inr (va_up (fun i => (R k i).map (ad E)) j.toNatClampNeg (some (ad E v)))))))) = Om E n I L (u2 R k (ix j) (some v)) :=
  Om_set hk (fun _ _ => rfl) (fun _ _ => rfl) (fun _ h => u2_ne h) (by
    rw [hs, u2_self]
    show Sum.inl (eA E 3, N, Sum.inr (Sum.inr (Sum.inr (Sum.inr _)))) = _
    congr 7
    funext b
    by_cases hb : b = j.toNatClampNeg <;> simp [va_up, hb])
end OM
-- locals
def lk : List (Nat × Value) → Nat → Option Value
  | [], _ => none
  | q :: r, k => if q.1 == k then some q.2 else lk r k
theorem lk_ix0 {ls : List (Nat × Value)} {k : Nat} {v : Value} (h : lk ls k = some v) : ∃ j : Nat, ls[j]? = some (k, v) := by
  induction ls with
  | nil => cases h
  | cons q r ih =>
    unfold lk at h
    by_cases hq : q.1 == k
    · rw [if_pos hq] at h
      refine ⟨0, ?_⟩
      have h1 : q.1 = k := by simpa using hq
      have h2 : q.2 = v := Option.some.inj h
      rw [← h1, ← h2]
      rfl
    · rw [if_neg hq] at h
      obtain ⟨j, hj⟩ := ih h
      exact ⟨j + 1, by simpa using hj⟩
theorem lk_ix {E : Ev} {ls : List (Nat × Value)} {k : Nat} {v : Value} (h : lk ls k = some v) : ∃ j : Nat, (ls.map (tq E))[j]? = some (k, tv E v) := by
  obtain ⟨j, hj⟩ := lk_ix0 h
  exact ⟨j, by simp [hj]⟩
theorem lk_at {E : Ev} {la : Array Slot} {nL : Nat} {ls : List (Nat × Value)} {k : Nat} {v : Value} (hl : lv_has la nL (ls.map (tq E))) (h : lk ls k = some v) : la[k]? = some (.val (tv E v)) := by
  obtain ⟨j, hj⟩ := lk_ix (E := E) h
  exact lv_at hl j hj
def ls1 (k : Nat) (v : Value) (ls : List (Nat × Value)) : List (Nat × Value) := (k, v) :: ls.filter (fun q => !(q.1 == k) && !(q.1 + 1 == k && q.2.category == 2))
def ls2 (k : Nat) (v : Value) (ls : List (Nat × Value)) : List (Nat × Value) := (k, v) :: ls.filter (fun q => !(q.1 == k) && (!(q.1 == k + 1) && !(q.1 + 1 == k && q.2.category == 2)))
theorem ls1_tq {E : Ev} {la : Array Slot} {nL k : Nat} {v : Value} {ls ls' : List (Nat × Value)} (h : ls1 k v ls = ls') (hl : lv_has la nL ((k, tv E v) :: (ls.map (tq E)).filter (fun q => !(q.1 == k) && !(q.1 + 1 == k && q.2.category == 2)))) : lv_has la nL (ls'.map (tq E)) := by
  subst h
  unfold ls1
  rw [List.map_cons]
  rw [List.filter_map] at hl
  simpa [Function.comp_def, tv_cat] using hl
theorem ls2_tq {E : Ev} {la : Array Slot} {nL k : Nat} {v : Value} {ls ls' : List (Nat × Value)} (h : ls2 k v ls = ls') (hl : lv_has la nL ((k, tv E v) :: (ls.map (tq E)).filter (fun q => !(q.1 == k) && (!(q.1 == k + 1) && !(q.1 + 1 == k && q.2.category == 2))))) : lv_has la nL (ls'.map (tq E)) := by
  subst h
  unfold ls2
  rw [List.map_cons]
  rw [List.filter_map] at hl
  simpa [Function.comp_def, tv_cat] using hl
theorem lv_pick_map {E : Ev} (ls : List (Nat × Value)) (ks : List Nat) : lv_pick (ls.map (tq E)) ks = (lv_pick ls ks).map (tq E) := by
  unfold lv_pick
  simp only [List.getElem?_map]
  induction ks with
  | nil => rfl
  | cons k ks ih =>
    simp only [List.filterMap_cons]
    cases h : ls[k]? with
    | none => simpa using ih
    | some q => simpa using ih
theorem lv_args_map {E : Ev} (vs : List Value) : ∀ i, lv_args i (vs.map (tv E)) = (lv_args i vs).map (tq E) := by
  induction vs with
  | nil => intro i; rfl
  | cons v vs ih =>
    intro i
    simp only [List.map_cons, lv_args, tv_cat, ih]
theorem lg_len_tv (E : Ev) (vs : List Value) : (lg_sl (vs.map (tv E))).length = (lg_sl vs).length := by
  induction vs with
  | nil => rfl
  | cons v vs ih =>
    simp only [lg_sl, List.map_cons, List.flatMap_cons, List.length_append, tv_cat] at ih ⊢
    rw [ih]
    by_cases h : v.category = 2 <;> simp [h]
-- numbers
def usr (x z : Int32) : Int32 := (x.toUInt32 >>> (z.toUInt32 &&& Int32.toUInt32 31)).toInt32
def lusr (x : Int64) (z : Int32) : Int64 := (x.toUInt64 >>> (z.toInt64.toUInt64 &&& Int64.toUInt64 63)).toInt64
def lsl (x : Int64) (z : Int32) : Int64 := x <<< (z.toInt64 &&& 63)
-- constants that lie outside: the words' tables and texts
def wTab : List (List Int32) := [[1, 1, 1, 3, 1, 5, 2], [0, 1, 2, 3, 6, 7, 12], [1, 0, 0, 1, 0, 1, 1, 0, 0, 0, 0, 0, 0, 0], [3, 4, 1, 30, 9, 9, 9, -1, -2, 8, 12, 9, -2, 9]]
def wTxt : List String := ["benches", "keep", "rule", "part", "base", "cell", "works"]
def wByt : List (List Int32) := [[98, 101, 110, 99, 104, 101, 115], [107, 101, 101, 112], [114, 117, 108, 101], [112, 97, 114, 116], [98, 97, 115, 101], [99, 101, 108, 108], [119, 111, 114, 107, 115]]
def wLen : List Nat := [7, 4, 4, 4, 4, 4, 5]
def wIdx : List Nat := [7, 9, 11, 13, 15, 17, 19]
def SO (E : Ev) (U : State) (H : Heap) : Prop :=
  (∀ i, i < 4 → va_Z "SparesHouse$Words" (wNam.getD i "") "[I" (.ref (ad E (1000 + i))) (eF E) U H ∧ va_T .int (ad E (1000 + i)) (wTab.getD i []).length (fun j => .int ((wTab.getD i []).getD j 0)) (eF E) U H) ∧
  vk_S 7 wLen wByt (fun i => ad E (1010 + i)) (fun i => ad E (1020 + i)) (eF E) U H ∧
  (∀ i, i < 7 → vk_R "SparesHouse$Words" (wIdx.getD i 0) (wTxt.getD i "") (ad E (1010 + i)) U) ∧
  va_Z "java/lang/String" "COMPACT_STRINGS" "Z" (.int 1) (eF E) U H ∧
  (va_Z "jdk/internal/util/Preconditions" "SIOOBE_FORMATTER" "Ljava/util/function/BiFunction;" .null (eF E) U H ∨ va_Z "jdk/internal/util/Preconditions" "SIOOBE_FORMATTER" "Ljava/util/function/BiFunction;" (.ref (ad E 1040)) (eF E) U H) ∧
  (∀ (a : String) (i : Nat) (x : MethodName) (h : String), Cond.methodLinkNest a i x h ∈ lw_tbl → va_Nw (.methodLinkNest a i x h) U) ∧ va_AO "SparesHouse$Play" U
theorem SO.kept {E : Ev} {U : State} {H H1 : Heap} (h : SO E U H) (hq : ∀ a : Nat, a < H.size → ¬ eF E a → H1[a]? = H[a]?) : SO E U H1 :=
  ⟨fun i hi => ⟨(h.1 i hi).1.kept hq, (h.1 i hi).2.kept hq⟩, h.2.1.kept hq, h.2.2.1, h.2.2.2.1.kept hq, h.2.2.2.2.1.imp (fun z => z.kept hq) (fun z => z.kept hq), h.2.2.2.2.2.1, h.2.2.2.2.2.2⟩
theorem SO.warm {E : Ev} {s U : State} {H : Heap} (hW : s.WarmedH U.vm) (h : SO E s H) : SO E U H :=
  ⟨fun i hi => ⟨va_Z.moved hW.alike (h.1 i hi).1, va_T.moved hW.alike (h.1 i hi).2⟩, h.2.1.moved hW.alike, fun i hi => (h.2.2.1 i hi).warm hW, va_Z.moved hW.alike h.2.2.2.1, h.2.2.2.2.1.imp (fun z => va_Z.moved hW.alike z) (fun z => va_Z.moved hW.alike z), fun a i x z hm => (h.2.2.2.2.2.1 a i x z hm).warmM hW, h.2.2.2.2.2.2.moved hW.alike⟩
theorem SO.same {E : Ev} {u U : State} {H : Heap} (hv : U.vm = u.vm) (h : SO E u H) : SO E U H := by
  have ha : u.vm.Alike U.vm := by rw [hv]; exact Vm.Alike.refl u.vm
  exact ⟨fun i hi => ⟨va_Z.moved ha (h.1 i hi).1, va_T.moved ha (h.1 i hi).2⟩, h.2.1.moved ha, fun i hi => (h.2.2.1 i hi).same hv, va_Z.moved ha h.2.2.2.1, h.2.2.2.2.1.imp (fun z => va_Z.moved ha z) (fun z => va_Z.moved ha z), fun a i x z hm => (h.2.2.2.2.2.1 a i x z hm).same rfl hv.symm, h.2.2.2.2.2.2.moved ha⟩
-- the judgement
/-- what stays through a method: the machine, its code, the tables' words, the world's classes and constants -/
def Cx (E : Ev) (Xt : Array Value → State → Prop) (p : Program) (s : State) (m : MethodId) (args : Array Value) (meth : Method) (c : Code) (y : MethodName) (cc : ByteArray) (nL : Nat) (ret : Option FieldType) : Prop :=
  p.tables.exec = Jvm.exec ∧ c.code = cc ∧ meth.sig.returnType = ret ∧ c.maxLocals = nL ∧ s.vm.findClass y.cls = some m.cls ∧ (∀ w ∈ gt, w.before args s = true) ∧ meth.locks = false ∧ (y.name = "<init>" → meth.name = y.name) ∧ va_K (eD E) vwC (tys E) s ∧ SO E s s.heap ∧ eZ E ≤ s.heap.size ∧ (∀ k, k < 1000 → ad E k = eZ E + k) ∧ Xt args s
/-- what changes: the memory -/
def Dx (E : Ev) (n : Nat) (I : MI) (L : ML) (R : MR) (s : State) (H : Heap) (locs : List Loc) (cl : Nat) : Prop :=
  va_P (eD E) vwC (Om E n I L R) H ∧ va_D (eF E) (Om E n I L R) ∧ va_S (eF E) s.heap H locs ∧ H.size = eZ E + n ∧ s.heap.size + cl ≤ eZ E + n
section CX
variable {E : Ev} {Xt : Array Value → State → Prop} {p : Program} {s : State} {m : MethodId} {args : Array Value} {meth : Method} {c : Code} {y : MethodName} {cc : ByteArray} {nL : Nat} {ret : Option FieldType} {n : Nat} {I I' : MI} {L L' : ML} {R R' : MR} {H H1 : Heap} {locs locs1 : List Loc} {cl : Nat}
theorem Cx.own (h : Cx E Xt p s m args meth c y cc nL ret) : s.vm.findClass y.cls = some m.cls := h.2.2.2.2.1
theorem Cx.ts (h : Cx E Xt p s m args meth c y cc nL ret) : ∀ w ∈ gt, w.before args s = true := h.2.2.2.2.2.1
theorem Cx.wd (h : Cx E Xt p s m args meth c y cc nL ret) {w : Cond} (hw : w ∈ gt) : w.before args s = true := h.2.2.2.2.2.1 w hw
theorem Cx.lk (h : Cx E Xt p s m args meth c y cc nL ret) : meth.locks = false := h.2.2.2.2.2.2.1
theorem Cx.nm (h : Cx E Xt p s m args meth c y cc nL ret) : y.name = "<init>" → meth.name = y.name := h.2.2.2.2.2.2.2.1
theorem Cx.K (h : Cx E Xt p s m args meth c y cc nL ret) : va_K (eD E) vwC (tys E) s := h.2.2.2.2.2.2.2.2.1
theorem Cx.so (h : Cx E Xt p s m args meth c y cc nL ret) : SO E s s.heap := h.2.2.2.2.2.2.2.2.2.1
theorem Cx.z (h : Cx E Xt p s m args meth c y cc nL ret) : eZ E ≤ s.heap.size := h.2.2.2.2.2.2.2.2.2.2.1
theorem Cx.ad (h : Cx E Xt p s m args meth c y cc nL ret) : ∀ k, k < 1000 → ad E k = eZ E + k := h.2.2.2.2.2.2.2.2.2.2.2.1
theorem Cx.xt (h : Cx E Xt p s m args meth c y cc nL ret) : Xt args s := h.2.2.2.2.2.2.2.2.2.2.2.2
theorem Dx.D (h : Dx E n I L R s H locs cl) : va_D (eF E) (Om E n I L R) := h.2.1
theorem Dx.S (h : Dx E n I L R s H locs cl) : va_S (eF E) s.heap H locs := h.2.2.1
theorem Dx.rf (h : Dx E n I L R s H locs cl) : va_S (eF E) H H locs := ⟨Nat.le_refl _, fun _ _ _ => rfl, h.S.2.2⟩
theorem Dx.put (h : Dx E n I L R s H locs cl) (hP : va_P (eD E) vwC (Om E n I' L' R') H1) (hD : va_D (eF E) (Om E n I' L' R')) (hS : va_S (eF E) H H1 locs1) (hz : H1.size ≤ s.heap.size + cl) : Dx E n I' L' R' s H1 locs1 cl :=
  ⟨hP, hD, ⟨Nat.le_trans h.S.1 hS.1, fun q h1 h2 => (hS.2.1 q (Nat.lt_of_lt_of_le h1 h.S.1) h2).trans (h.S.2.1 q h1 h2), hS.2.2⟩, Nat.le_antisymm (Nat.le_trans hz h.2.2.2.2) (by rw [← h.2.2.2.1]; exact hS.1), h.2.2.2.2⟩
end CX
theorem tys_at (E : Ev) {t : Nat} (h : t < 4) : ∃ ty, (tys E)[t]? = some (eA E t, ty) := by
  match t, h with
  | 0, _ => exact ⟨_, rfl⟩
  | 1, _ => exact ⟨_, rfl⟩
  | 2, _ => exact ⟨_, rfl⟩
  | 3, _ => exact ⟨_, rfl⟩
theorem W_sz {p : Program} {l : Launch} {e : Env} {R : Room} {s : State} {m : MethodId} {args : Array Value} {below : List Frame} {meth : Method} {c : Code} {H : Heap} {locs : List Loc} {cells slots : Nat} {Q : State → Prop} {g : JFrame} (h : H.size ≤ s.heap.size + cells → W p l e R s m args below meth c H locs cells slots Q g) : W p l e R s m args below meth c H locs cells slots Q g := fun T hT X0 => h (by
  have h1 := X0.same.2.2.1
  rw [← hT]
  exact h1) T hT X0
def X (E : Ev) (l : Launch) (rm : Room) (y : MethodName) (cc : ByteArray) (nL : Nat) (ret : Option FieldType) (Xt : Array Value → State → Prop) (Zf : List Frame → Array Value → State → State → Prop) (pc : Nat) (ls : List (Nat × Value)) (st : List Value) (n : Nat) (I : MI) (L : ML) (R : MR) (cl sl : Nat) : Prop :=
  ∀ (p : Program) (e : Env) (s : State) (m : MethodId) (args : Array Value) (below : List Frame) (meth : Method) (c : Code), Cx E Xt p s m args meth c y cc nL ret → ∀ (H : Heap) (locs : List Loc) (la : Array Slot), Dx E n I L R s H locs cl → lv_has la nL (ls.map (tq E)) → W p l e rm s m args below meth c H locs cl sl (Zf below args s) (F0 m pc la (st.map (tv E)))

/-- a whole row is another -/
def ur {α : Type} (f : Nat → Nat → α) (k : Nat) (g : Nat → α) : Nat → Nat → α := fun a => if a = k then g else f a
theorem ur_self {α : Type} {f : Nat → Nat → α} {k : Nat} {g : Nat → α} : ur f k g k = g := by simp [ur]
theorem ur_ne {α : Type} {f : Nat → Nat → α} {k j : Nat} {g : Nat → α} (h : j ≠ k) : ur f k g j = f j := by simp [ur, h]
theorem Om_row0 {E : Ev} {n : Nat} {I : MI} {L : ML} {R : MR} {k N : Nat} {g : Nat → Int32} (hk : k < n) (hs : sh k = .inr (0, N)) : (Om E n I L R).set k (ad E k, .inl (eA E 0, N, .inl g)) = Om E n (ur I k g) L R :=
  Om_set hk (fun _ h => ur_ne h) (fun _ _ => rfl) (fun _ _ => rfl) (by rw [hs, ur_self]; rfl)
theorem Om_row1 {E : Ev} {n : Nat} {I : MI} {L : ML} {R : MR} {k N : Nat} {g : Nat → Int64} (hk : k < n) (hs : sh k = .inr (1, N)) : (Om E n I L R).set k (ad E k, .inl (eA E 1, N, .inr (.inl g))) = Om E n I (ur L k g) R :=
  Om_set hk (fun _ _ => rfl) (fun _ h => ur_ne h) (fun _ _ => rfl) (by rw [hs, ur_self]; rfl)
theorem tv_cats (E : Ev) (st : List Value) : ((st.map (tv E)).map fun v => v.category).sum = (st.map fun v => v.category).sum := by
  rw [List.map_map]
  congr 1
  apply List.map_congr_left
  intro v _
  exact tv_cat E v
