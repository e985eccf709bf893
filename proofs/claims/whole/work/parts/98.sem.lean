theorem sem_all {Ln : Nat} (hL : Ln ≤ 3072) (xs : Nat → Int32) : wp_start Ln xs := by
  unfold wp_start
  intro I1 L1 R1 e1 e2 e3
  refine i_X9 e1 e3 (fun I2 L2 hV => ?_)
  intro I3 L3 R3 f1 f2 f3
  have hV3 : VC I3 L3 (anew B0) [] (fun _ => 0) 0 := hV.fr (fun j hj => by rw [f1, ur_ne (by omega)]) (fun j hj => by rw [f2, ur_ne (by omega)])
  refine i_X10 (by rw [f1, ur_self]) f3 (fun I4 L4 hR lc hL4 => ⟨RY_ok, RY_ok2, 514, ?_⟩)
  have := sem_loop hL xs 513 0 I4 L4 (by omega) ⟨anew B0, [], fun _ => 0, 0, hV3.fr lc hL4, hR, PG_anew B0_ok.1 B0_ok.2 0, fun B hB => by cases hB⟩
  exact this
