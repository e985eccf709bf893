/-! the beginning of both, and the whole -/
def FX0 (R : MR) : MR := (u2 (F2 290 (ur (u2 (F2 268 (ur (u2 (F2 246 (ur (u2 (F2 224 (ur (u2 (F2 202 (ur (u2 (F2 180 (ur (u2 (F2 158 (ur (u2 (F2 136 (ur (u2 (F2 114 (ur (u2 (F2 92 (ur (u2 (F2 70 (ur (u2 (F2 48 (ur (u2 (ur R 47 (fun _ => none)) 46 0 (some 47)) 48 (fun _ => none))) 47 (ix 0) (some 48)) 70 (fun _ => none))) 47 (ix 1) (some 70)) 92 (fun _ => none))) 47 (ix 2) (some 92)) 114 (fun _ => none))) 47 (ix 3) (some 114)) 136 (fun _ => none))) 47 (ix 4) (some 136)) 158 (fun _ => none))) 47 (ix 5) (some 158)) 180 (fun _ => none))) 47 (ix 6) (some 180)) 202 (fun _ => none))) 47 (ix 7) (some 202)) 224 (fun _ => none))) 47 (ix 8) (some 224)) 246 (fun _ => none))) 47 (ix 9) (some 246)) 268 (fun _ => none))) 47 (ix 10) (some 268)) 290 (fun _ => none))) 47 (ix 11) (some 290))
def F3 (R : MR) : MR := st1 312 323 2 (st1 312 322 1 (u2 (F1 313 (ur R 313 (fun _ => none))) 312 0 (some 313)))
def F6 (R : MR) : MR := st1 324 325 0 R
def F8 (R : MR) : MR := st1 326 335 9 (st1 326 334 8 (st1 326 333 7 (st1 326 332 6 (st1 326 331 4 (st1 326 330 3 (st1 326 329 2 (st1 326 328 1 (st1 326 327 0 R))))))))
def F9 (R : MR) : MR := u2 (F8 (ur (u2 (F6 (ur (u2 (F3 (ur (u2 (FX0 (ur (u2 (F2 24 (ur (u2 (F2 2 (ur (st1 0 1 0 R) 2 (fun _ => none))) 0 2 (some 2)) 24 (fun _ => none))) 0 3 (some 24)) 46 (fun _ => none))) 0 4 (some 46)) 312 (fun _ => none))) 0 5 (some 312)) 324 (fun _ => none))) 0 6 (some 324)) 326 (fun _ => none))) 0 7 (some 326)
def F10 (R : MR) : MR := (st1 336 348 22 (st1 336 347 21 (st1 336 346 20 (st1 336 345 19 (st1 336 344 17 (st1 336 343 16 (st1 336 342 15 (st1 336 341 14 (st1 336 340 5 (st1 336 339 3 (st1 336 338 2 (st1 336 337 1 R))))))))))))
def RX : MR := F9 (ur (fun _ _ => none) 0 (fun _ => none))
def RY : MR := F10 (ur RX 336 (fun _ => none))
theorem RX_ok : GRx RX := by
  unfold GRx
  decide +kernel
theorem RX_2 : RX 0 2 = some 2 := by decide +kernel
theorem RY_ok : GRx RY := by
  unfold GRx
  decide +kernel
theorem RY_ok2 : GRm RY := by
  unfold GRm
  decide +kernel
theorem RY_1 : RY 336 1 = some 337 := by decide +kernel
theorem F2_out {o q : Nat} {R : MR} (h : q < o) : F2 o R q = R q := by
  unfold F2 F4 F1 st1
  repeat (first | rw [u2_ne (by omega)] | rw [ur_ne (by omega)])
section INIU
variable {I : MI} {L : ML} {R : MR} {Q : MI → ML → MR → Prop}
theorem i_X0 (hZ : ZI I) (hQ : ∀ I' L', ZI I' → (∀ q, q < 46 → I' q = I q) → Q I' L' (FX0 R)) : wp_X0_init I L R Q := by
  unfold wp_X0_init
  intro I1 L2 R3 e1 g2 h3 R4 k4 I5 e5 I6 e6
  have z6 : ZI I6 := by rw [e6, e5, e1]; exact hZ.xr.x2.x2
  have c6 : ∀ q, q < 46 → I6 q = I q := fun q hq => by rw [e6, u2_ne (by omega), e5, u2_ne (by omega), e1, ur_ne (by omega)]
  have o4 : R4 46 0 = some 47 := by rw [k4, u2_s]
  refine ⟨o4, ?_⟩
  intro I8 L9 R10 e8 g9 h10
  refine i_X2 (by omega) (by rw [e8]; exact z6.xr) (fun I11 L12 z11 b11 f11 => ?_)
  intro R14 k14
  have c11 : ∀ q, q < 46 → I11 q = I q := fun q hq => by rw [f11 q (by omega), e8, ur_ne (by omega)]; exact c6 q hq
  have o14 : R14 46 0 = some 47 := by rw [k14, u2_ne (by omega), F2_out (by omega), h10, ur_ne (by omega)]; exact o4
  refine ⟨o14, ?_⟩
  intro I16 L17 R18 e16 g17 h18
  refine i_X2 (by omega) (by rw [e16]; exact z11.xr) (fun I19 L20 z19 b19 f19 => ?_)
  intro R22 k22
  have c19 : ∀ q, q < 46 → I19 q = I q := fun q hq => by rw [f19 q (by omega), e16, ur_ne (by omega)]; exact c11 q hq
  have o22 : R22 46 0 = some 47 := by rw [k22, u2_ne (by omega), F2_out (by omega), h18, ur_ne (by omega)]; exact o14
  refine ⟨o22, ?_⟩
  intro I24 L25 R26 e24 g25 h26
  refine i_X2 (by omega) (by rw [e24]; exact z19.xr) (fun I27 L28 z27 b27 f27 => ?_)
  intro R30 k30
  have c27 : ∀ q, q < 46 → I27 q = I q := fun q hq => by rw [f27 q (by omega), e24, ur_ne (by omega)]; exact c19 q hq
  have o30 : R30 46 0 = some 47 := by rw [k30, u2_ne (by omega), F2_out (by omega), h26, ur_ne (by omega)]; exact o22
  refine ⟨o30, ?_⟩
  intro I32 L33 R34 e32 g33 h34
  refine i_X2 (by omega) (by rw [e32]; exact z27.xr) (fun I35 L36 z35 b35 f35 => ?_)
  intro R38 k38
  have c35 : ∀ q, q < 46 → I35 q = I q := fun q hq => by rw [f35 q (by omega), e32, ur_ne (by omega)]; exact c27 q hq
  have o38 : R38 46 0 = some 47 := by rw [k38, u2_ne (by omega), F2_out (by omega), h34, ur_ne (by omega)]; exact o30
  refine ⟨o38, ?_⟩
  intro I40 L41 R42 e40 g41 h42
  refine i_X2 (by omega) (by rw [e40]; exact z35.xr) (fun I43 L44 z43 b43 f43 => ?_)
  intro R46 k46
  have c43 : ∀ q, q < 46 → I43 q = I q := fun q hq => by rw [f43 q (by omega), e40, ur_ne (by omega)]; exact c35 q hq
  have o46 : R46 46 0 = some 47 := by rw [k46, u2_ne (by omega), F2_out (by omega), h42, ur_ne (by omega)]; exact o38
  refine ⟨o46, ?_⟩
  intro I48 L49 R50 e48 g49 h50
  refine i_X2 (by omega) (by rw [e48]; exact z43.xr) (fun I51 L52 z51 b51 f51 => ?_)
  intro R54 k54
  have c51 : ∀ q, q < 46 → I51 q = I q := fun q hq => by rw [f51 q (by omega), e48, ur_ne (by omega)]; exact c43 q hq
  have o54 : R54 46 0 = some 47 := by rw [k54, u2_ne (by omega), F2_out (by omega), h50, ur_ne (by omega)]; exact o46
  refine ⟨o54, ?_⟩
  intro I56 L57 R58 e56 g57 h58
  refine i_X2 (by omega) (by rw [e56]; exact z51.xr) (fun I59 L60 z59 b59 f59 => ?_)
  intro R62 k62
  have c59 : ∀ q, q < 46 → I59 q = I q := fun q hq => by rw [f59 q (by omega), e56, ur_ne (by omega)]; exact c51 q hq
  have o62 : R62 46 0 = some 47 := by rw [k62, u2_ne (by omega), F2_out (by omega), h58, ur_ne (by omega)]; exact o54
  refine ⟨o62, ?_⟩
  intro I64 L65 R66 e64 g65 h66
  refine i_X2 (by omega) (by rw [e64]; exact z59.xr) (fun I67 L68 z67 b67 f67 => ?_)
  intro R70 k70
  have c67 : ∀ q, q < 46 → I67 q = I q := fun q hq => by rw [f67 q (by omega), e64, ur_ne (by omega)]; exact c59 q hq
  have o70 : R70 46 0 = some 47 := by rw [k70, u2_ne (by omega), F2_out (by omega), h66, ur_ne (by omega)]; exact o62
  refine ⟨o70, ?_⟩
  intro I72 L73 R74 e72 g73 h74
  refine i_X2 (by omega) (by rw [e72]; exact z67.xr) (fun I75 L76 z75 b75 f75 => ?_)
  intro R78 k78
  have c75 : ∀ q, q < 46 → I75 q = I q := fun q hq => by rw [f75 q (by omega), e72, ur_ne (by omega)]; exact c67 q hq
  have o78 : R78 46 0 = some 47 := by rw [k78, u2_ne (by omega), F2_out (by omega), h74, ur_ne (by omega)]; exact o70
  refine ⟨o78, ?_⟩
  intro I80 L81 R82 e80 g81 h82
  refine i_X2 (by omega) (by rw [e80]; exact z75.xr) (fun I83 L84 z83 b83 f83 => ?_)
  intro R86 k86
  have c83 : ∀ q, q < 46 → I83 q = I q := fun q hq => by rw [f83 q (by omega), e80, ur_ne (by omega)]; exact c75 q hq
  have o86 : R86 46 0 = some 47 := by rw [k86, u2_ne (by omega), F2_out (by omega), h82, ur_ne (by omega)]; exact o78
  refine ⟨o86, ?_⟩
  intro I88 L89 R90 e88 g89 h90
  refine i_X2 (by omega) (by rw [e88]; exact z83.xr) (fun I91 L92 z91 b91 f91 => ?_)
  intro R94 k94
  have c91 : ∀ q, q < 46 → I91 q = I q := fun q hq => by rw [f91 q (by omega), e88, ur_ne (by omega)]; exact c83 q hq
  have o94 : R94 46 0 = some 47 := by rw [k94, u2_ne (by omega), F2_out (by omega), h90, ur_ne (by omega)]; exact o86
  refine ⟨o94, ?_⟩
  intro I96 L97 R98 e96 g97 h98
  refine i_X2 (by omega) (by rw [e96]; exact z91.xr) (fun I99 L100 z99 b99 f99 => ?_)
  intro R102 k102
  have c99 : ∀ q, q < 46 → I99 q = I q := fun q hq => by rw [f99 q (by omega), e96, ur_ne (by omega)]; exact c91 q hq
  clear o4 o14 o22 o30 o38 o46 o54 o62 o70 o78 o86 o94
  subst h3 k4 h10 k14 h18 k22 h26 k30 h34 k38 h42 k46 h50 k54 h58 k62 h66 k70 h74 k78 h82 k86 h90 k94 h98 k102
  exact hQ I99 L100 z99 c99
theorem i_X3 (hZ : ZI I) (hQ : ∀ I' L', ZI I' → (∀ q, q < 46 → I' q = I q) → Q I' L' (F3 R)) : wp_X3_init I L R Q := by
  unfold wp_X3_init
  intro I1 L2 R3 e1 g2 h3
  refine i_X1 (by omega) (by rw [e1]; exact hZ.xr) (fun I4 L5 z4 b4 f4 => ?_)
  intro R7 k7 I8 L9 R10 e8 g9 h10 R11 k11 I12 L13 R14 e12 g13 h14 R15 k15 I16 e16 I17 e17
  subst h3 k7 h10 k11 h14 k15
  refine hQ I17 L13 ?_ (fun q hq => ?_)
  · rw [e17, e16, e12, e8]; exact z4.xr.xr.x2.x2
  · rw [e17, u2_ne (by omega), e16, u2_ne (by omega), e12, ur_ne (by omega), e8, ur_ne (by omega), f4 q (by omega), e1, ur_ne (by omega)]
theorem i_X6 (hZ : ZI I) (hQ : ∀ I' L', ZI I' → (∀ q, q < 46 → I' q = I q) → Q I' L' (F6 R)) : wp_X6_init I L R Q := by
  unfold wp_X6_init
  intro I1 L2 R3 e1 g2 h3 R4 k4 I5 e5
  subst h3 k4
  refine hQ I5 L2 ?_ (fun q hq => ?_)
  · rw [e5, e1]; exact hZ.xr.x2
  · rw [e5, u2_ne (by omega), e1, ur_ne (by omega)]
theorem i_X8 (hZ : ZI I) (hQ : ∀ I' L', ZI I' → (∀ q, q < 46 → I' q = I q) → Q I' L' (F8 R)) : wp_X8_init I L R Q := by
  unfold wp_X8_init
  intro I1 L2 R3 e1 g2 h3 R4 k4 I5 L6 R7 e5 g6 h7 R8 k8 I9 L10 R11 e9 g10 h11 R12 k12 I13 L14 R15 e13 g14 h15 R16 k16 I17 L18 R19 e17 g18 h19 R20 k20 I21 e21 I22 L23 R24 e22 g23 h24 R25 k25 I26 L27 R28 e26 g27 h28 R29 k29 I30 L31 R32 e30 g31 h32 R33 k33 I34 L35 R36 e34 g35 h36 R37 k37 I38 e38 I39 e39 I40 e40
  subst h3 k4 h7 k8 h11 k12 h15 k16 h19 k20 h24 k25 h28 k29 h32 k33 h36 k37
  refine hQ I40 L35 ?_ (fun q hq => ?_)
  · rw [e40, e39, e38, e34, e30, e26, e22, e21, e17, e13, e9, e5, e1]
    exact hZ.xr.xr.xr.xr.xr.x2.xr.xr.xr.xr.x2.x2.x2
  · rw [e40, u2_ne (by omega), e39, u2_ne (by omega), e38, u2_ne (by omega), e34, ur_ne (by omega), e30, ur_ne (by omega), e26, ur_ne (by omega), e22, ur_ne (by omega), e21, u2_ne (by omega), e17, ur_ne (by omega), e13, ur_ne (by omega), e9, ur_ne (by omega), e5, ur_ne (by omega), e1, ur_ne (by omega)]
theorem PR_B0 (hZ : ZI I) (hb : I 3 2 = 1) : PR 3 I B0 := by
  intro j i hn hj
  have e : sN B0 (j + 1) i = if j + 1 = 1 ∧ i = 2 then 1 else 0 := rfl
  rw [e]
  by_cases h : j = 0 ∧ i = 2
  · obtain ⟨rfl, rfl⟩ := h
    rw [if_pos ⟨rfl, rfl⟩]
    exact hb
  · rw [if_neg (by omega)]
    rcases hZ (3 + j) i with g | g
    · exact g
    · exact absurd g (by omega)
theorem i_X9 (hI : I = ur (fun _ _ => (0 : Int32)) 0 (fun _ => 0)) (hR : R = ur (fun _ _ => none) 0 (fun _ => none)) (hQ : ∀ I' L', VC I' L' (anew B0) [] (fun _ => 0) 0 → Q I' L' RX) : wp_X9_init I L R Q := by
  have hZ : ZI I := by rw [hI]; exact ZI.xr (fun _ _ => Or.inl rfl)
  unfold wp_X9_init
  intro I1 L2 R3 e1 g2 h3 R4 k4 I5 e5 I6 L7 R8 e6 g7 h8
  refine i_X2 (by omega) (by rw [e6, e5, e1]; exact hZ.xr.x2.xr) (fun I9 L10 z9 b9 f9 => ?_)
  intro R12 k12 I13 L14 R15 e13 g14 h15
  refine i_X2 (by omega) (by rw [e13]; exact z9.xr) (fun I16 L17 z16 b16 f16 => ?_)
  intro R19 k19 I20 L21 R22 e20 g21 h22
  refine i_X0 (by rw [e20]; exact z16.xr) (fun I23 L24 z23 f23 => ?_)
  intro R26 k26 I27 L28 R29 e27 g28 h29
  refine i_X3 (by rw [e27]; exact z23.xr) (fun I30 L31 z30 f30 => ?_)
  intro R33 k33 I34 L35 R36 e34 g35 h36
  refine i_X6 (by rw [e34]; exact z30.xr) (fun I37 L38 z37 f37 => ?_)
  intro R40 k40 I41 L42 R43 e41 g42 h43
  refine i_X8 (by rw [e41]; exact z37.xr) (fun I44 L45 z44 f44 => ?_)
  intro R47 k47
  have hX : R47 = RX := by
    subst hR h3 k4 h8 k12 h15 k19 h22 k26 h29 k33 h36 k40 h43 k47
    rfl
  rw [hX]
  refine ⟨RX_2, RX_ok, ?_⟩
  have b44 : I44 3 2 = 1 := by
    rw [f44 3 (by omega), e41, ur_ne (by omega), f37 3 (by omega), e34, ur_ne (by omega), f30 3 (by omega), e27, ur_ne (by omega), f23 3 (by omega), e20, ur_ne (by omega), f16 3 (by omega), e13, ur_ne (by omega)]
    exact b9
  have zz : ∀ q s, ¬ (s = 2 ∧ (q = 3 ∨ q = 25 ∨ 48 ≤ q)) → I44 q s = 0 := fun q s h => (z44 q s).resolve_right h
  refine c_beginAnew (L := L45) (PR_B0 z44 b44) (fun I50 c50 f50 => hQ I50 L45 ⟨c50, ⟨0, by omega, ?_, ?_, Nat.zero_le _, fun q C hq => by cases hq⟩, ⟨Nat.zero_le _, fun q hq => absurd hq (by omega)⟩, ?_, Or.inl ?_, Or.inl ?_, Or.inl ?_⟩)
  · rw [(f50 46 (by omega)).1]; exact zz 46 1 (by omega)
  · rw [(f50 46 (by omega)).1]; exact zz 46 2 (by omega)
  · rw [(f50 0 (by omega)).1]; exact zz 0 1 (by omega)
  · rw [(f50 326 (by omega)).1]; exact zz 326 10 (by omega)
  · rw [(f50 326 (by omega)).1]; exact zz 326 11 (by omega)
  · rw [(f50 326 (by omega)).1]; exact zz 326 12 (by omega)
theorem rn0 : ∀ s, s < 92 → (s < 14 ∨ 20 ≤ s) → (if s = 2 then (1 : Int32) else 0) = val (anew B0) s := by decide +kernel
theorem i_X10 (h336 : I 336 = fun _ => 0) (hR : R = ur RX 336 (fun _ => none)) (hQ : ∀ I' L', VR I' (anew B0) [] (fun _ => 0) 0 → LC I I' → (∀ q, q < 336 → L' q = L q) → Q I' L' RY) : wp_X10_init I L R Q := by
  unfold wp_X10_init
  intro I1 L2 R3 e1 g2 h3 R4 k4 I5 L6 R7 e5 g6 h7 R8 k8 I9 L10 R11 e9 g10 h11 R12 k12 I13 L14 R15 e13 g14 h15 R16 k16 I17 L18 R19 e17 g18 h19 R20 k20 I21 L22 R23 e21 g22 h23 R24 k24 I25 L26 R27 e25 g26 h27 R28 k28 I29 L30 R31 e29 g30 h31 R32 k32 I33 L34 R35 e33 g34 h35 R36 k36 I37 L38 R39 e37 g38 h39 R40 k40 I41 L42 R43 e41 g42 h43 R44 k44 I45 L46 R47 e45 g46 h47 R48 k48
  have hX : R48 = RY := by
    subst hR h3 k4 h7 k8 h11 k12 h15 k16 h19 k20 h23 k24 h27 k28 h31 k32 h35 k36 h39 k40 h43 k44 h47 k48
    rfl
  rw [hX]
  refine ⟨RY_1, fun I50 e50 => ?_⟩
  have c45 : ∀ q, q < 337 → I45 q = I q := fun q hq => by
    rw [e45, ur_ne (by omega), e41, ur_ne (by omega), e37, ur_ne (by omega), e33, ur_ne (by omega), e29, ur_ne (by omega), e25, ur_ne (by omega), e21, ur_ne (by omega), e17, ur_ne (by omega), e13, ur_ne (by omega), e9, ur_ne (by omega), e5, ur_ne (by omega), e1, ur_ne (by omega)]
  have c337 : I45 337 = fun _ => 0 := by
    rw [e45, ur_ne (by omega), e41, ur_ne (by omega), e37, ur_ne (by omega), e33, ur_ne (by omega), e29, ur_ne (by omega), e25, ur_ne (by omega), e21, ur_ne (by omega), e17, ur_ne (by omega), e13, ur_ne (by omega), e9, ur_ne (by omega), e5, ur_ne (by omega), e1, ur_self]
  have d46 : ∀ q, q < 336 → L46 q = L q := fun q hq => by
    rw [g46, ur_ne (by omega), g42, ur_ne (by omega), g38, ur_ne (by omega), g34, ur_ne (by omega), g30, ur_ne (by omega), g26, ur_ne (by omega), g22, ur_ne (by omega), g18, ur_ne (by omega), g14, ur_ne (by omega), g10, ur_ne (by omega), g6, ur_ne (by omega), g2, ur_ne (by omega)]
  have v337 : ∀ s, I50 337 s = if s = 2 then 1 else 0 := fun s => by
    rw [e50, u2_at, c337, show ix 2 = 2 from rfl]
    by_cases hs : s = 2
    · rw [if_pos ⟨rfl, hs⟩, if_pos hs]
    · rw [if_neg (fun z => hs z.2), if_neg hs]
  have v336 : I50 336 = fun _ => 0 := by rw [e50, u2_ne (by omega), c45 336 (by omega), h336]
  refine hQ I50 L46 ⟨⟨[], ⟨fun s h1 h2 => by rw [v337 s]; exact rn0 s h1 h2, ⟨?_, ?_, ?_, ?_⟩, fun q x hx => (by cases hx), fun q x hx => (by cases hx), fun q x hx => (by cases hx), fun q x hx => (by cases hx), List.Perm.nil, Nat.zero_le _, Nat.zero_le _, Nat.zero_le _, Nat.zero_le _⟩⟩, ⟨by rw [v336]; rfl, Nat.zero_le _, fun q x hx => (by cases hx)⟩, by rw [v336]; rfl, fun q hq => absurd hq (by omega)⟩ (fun q hq => by rw [e50, u2_ne (by omega)]; exact c45 q (by omega)) d46
  · rw [v337]; rfl
  · rw [v337]; rfl
  · rw [v337]; rfl
  · rw [v337]; rfl
end INIU
