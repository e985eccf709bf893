/-! ===== lN n to 2^64: shifts, and, or, masks, one bit ===== -/
theorem wb_tb (n : Nat) : (lN n).toBitVec = BitVec.ofNat 64 n := rfl
theorem wb_inj {a b : Int64} (h : a.toBitVec = b.toBitVec) : a = b := Int64.toBitVec_inj.mp h
theorem wb_tn {n : Nat} (h : n < 2 ^ 64) : (lN n).toBitVec.toNat = n := by rw [wb_tb, BitVec.toNat_ofNat, Nat.mod_eq_of_lt h]
theorem wb_of (x : Int64) : ∃ n, n < 2 ^ 64 ∧ x = lN n := ⟨x.toBitVec.toNat, x.toBitVec.isLt, wb_inj (by rw [wb_tb]; simp)⟩
theorem wb_of32 (x : Int32) : ∃ n, n < 2 ^ 32 ∧ x = nI n := ⟨x.toBitVec.toNat, x.toBitVec.isLt, Int32.toBitVec_inj.mp (by show _ = BitVec.ofNat 32 _; simp)⟩
theorem wb_c : ∀ k, k < 64 → ((nI k).toInt64 &&& 63) = lN k := by decide +kernel
theorem wb_cu : ∀ k, k < 64 → ((nI k).toInt64.toUInt64 &&& Int64.toUInt64 63) = UInt64.ofNat k := by decide +kernel
theorem wb_sm : ∀ k, k < 64 → (BitVec.ofNat 64 k).smod 64 = BitVec.ofNat 64 k := by decide +kernel
theorem wb_pw {a b : Nat} (h : a ≤ b) : 2 ^ b = 2 ^ a * 2 ^ (b - a) := by rw [← Nat.pow_add]; congr 1; omega
theorem wb_lt2 {a b : Nat} (h : a < b) : 2 ^ a < 2 ^ b := Nat.pow_lt_pow_right (by decide) h
theorem wb_mod (n : Nat) : lN n = lN (n % 2 ^ 64) := wb_inj (by rw [wb_tb, wb_tb]; apply BitVec.eq_of_toNat_eq; rw [BitVec.toNat_ofNat, BitVec.toNat_ofNat, Nat.mod_mod])
theorem wb_shr {n k : Nat} (hn : n < 2 ^ 64) (hk : k < 64) : ((lN n).toUInt64 >>> ((nI k).toInt64.toUInt64 &&& Int64.toUInt64 63)).toInt64 = lN (n / 2 ^ k) := by
  rw [wb_cu k hk]
  apply wb_inj
  apply BitVec.eq_of_toNat_eq
  show ((lN n).toUInt64 >>> UInt64.ofNat k).toNat = (BitVec.ofNat 64 _).toNat
  have h1 : (UInt64.ofNat k).toNat = k := by
    show (BitVec.ofNat 64 k).toNat = k
    rw [BitVec.toNat_ofNat, Nat.mod_eq_of_lt (by omega)]
  have h2 : (lN n).toUInt64.toNat = n := wb_tn hn
  rw [UInt64.toNat_shiftRight, h1, h2, Nat.mod_eq_of_lt hk, Nat.shiftRight_eq_div_pow, BitVec.toNat_ofNat, Nat.mod_eq_of_lt (Nat.lt_of_le_of_lt (Nat.div_le_self _ _) hn)]
theorem wb_shl (n : Nat) {k : Nat} (hk : k < 64) : lN n <<< ((nI k).toInt64 &&& 63) = lN (n * 2 ^ k) := by
  rw [wb_c k hk]
  apply wb_inj
  rw [Int64.toBitVec_shiftLeft, wb_tb, wb_tb, wb_tb, wb_sm k hk]
  apply BitVec.eq_of_toNat_eq
  rw [BitVec.shiftLeft_eq', BitVec.toNat_shiftLeft, BitVec.toNat_ofNat, BitVec.toNat_ofNat, BitVec.toNat_ofNat, Nat.mod_eq_of_lt (show k < 2 ^ 64 by omega), Nat.shiftLeft_eq, Nat.mul_mod, Nat.mod_mod, ← Nat.mul_mod]
theorem wb_and {a b : Nat} (ha : a < 2 ^ 64) (hb : b < 2 ^ 64) : lN a &&& lN b = lN (a &&& b) := by
  apply wb_inj
  rw [Int64.toBitVec_and, wb_tb, wb_tb, wb_tb]
  apply BitVec.eq_of_toNat_eq
  rw [BitVec.toNat_and, BitVec.toNat_ofNat, BitVec.toNat_ofNat, BitVec.toNat_ofNat, Nat.mod_eq_of_lt ha, Nat.mod_eq_of_lt hb, Nat.mod_eq_of_lt (Nat.and_lt_two_pow _ hb)]
theorem wb_or {a b : Nat} (ha : a < 2 ^ 64) (hb : b < 2 ^ 64) : lN a ||| lN b = lN (a ||| b) := by
  apply wb_inj
  rw [Int64.toBitVec_or, wb_tb, wb_tb, wb_tb]
  apply BitVec.eq_of_toNat_eq
  rw [BitVec.toNat_or, BitVec.toNat_ofNat, BitVec.toNat_ofNat, BitVec.toNat_ofNat, Nat.mod_eq_of_lt ha, Nat.mod_eq_of_lt hb, Nat.mod_eq_of_lt (Nat.or_lt_two_pow ha hb)]
theorem wb_mask {n k : Nat} (hn : n < 2 ^ 64) (hk : k < 64) : lN n &&& lN (2 ^ k - 1) = lN (n % 2 ^ k) := by
  rw [wb_and hn (by have := wb_lt2 hk; omega), Nat.and_two_pow_sub_one_eq_mod]
theorem wb_a1 {n : Nat} (hn : n < 2 ^ 64) : lN n &&& 1 = lN (n % 2) := wb_mask (k := 1) hn (by decide)
theorem wb_bit {n k : Nat} (hn : n < 2 ^ 64) (hk : k < 64) : ((lN n).toUInt64 >>> ((nI k).toInt64.toUInt64 &&& Int64.toUInt64 63)).toInt64 &&& 1 = lN (n / 2 ^ k % 2) := by
  rw [wb_shr hn hk, wb_a1 (Nat.lt_of_le_of_lt (Nat.div_le_self _ _) hn)]
theorem wb_xor {q k : Nat} (hk : k < 63) (h : 2 ^ k ≤ q) (h2 : q < 2 ^ (k + 1)) : lN q ^^^ lN (2 ^ k) = lN (q - 2 ^ k) := by
  obtain ⟨r, rfl⟩ : ∃ r, q = 2 ^ k + r := ⟨q - 2 ^ k, by omega⟩
  have hr : r < 2 ^ k := by rw [Nat.pow_succ] at h2; omega
  have hx : (2 ^ k + r) ^^^ 2 ^ k = r := by
    apply Nat.eq_of_testBit_eq
    intro i
    rw [Nat.testBit_xor, Nat.testBit_two_pow]
    rcases Nat.lt_trichotomy i k with h | h | h
    · rw [Nat.testBit_two_pow_add_gt h]
      simp [show ¬ k = i by omega]
    · subst h
      rw [Nat.testBit_two_pow_add_eq]
      simp
    · have a1 : 2 ^ (k + 1) ≤ 2 ^ i := Nat.pow_le_pow_right (by decide) h
      rw [Nat.testBit_lt_two_pow (show 2 ^ k + r < 2 ^ i by omega), Nat.testBit_lt_two_pow (show r < 2 ^ i by omega)]
      simp [show ¬ k = i by omega]
  have b1 := wb_lt2 (show k + 1 < 64 by omega)
  have b2 := wb_lt2 (show k < 64 by omega)
  apply wb_inj
  rw [Int64.toBitVec_xor, wb_tb, wb_tb, wb_tb]
  apply BitVec.eq_of_toNat_eq
  rw [BitVec.toNat_xor, BitVec.toNat_ofNat, BitVec.toNat_ofNat, BitVec.toNat_ofNat, Nat.mod_eq_of_lt (by omega : 2 ^ k + r < 2 ^ 64), Nat.mod_eq_of_lt b2, hx, Nat.add_sub_cancel_left, Nat.mod_eq_of_lt (by omega)]
-- slips: a day, a number, a mark, a place in one long
def enc (d n m p : Nat) : Int64 := lN (d * 2 ^ 40 + n * 2 ^ 8 + m * 2 ^ 4 + p)
def okE (d n m p : Nat) : Prop := d < 2 ^ 20 ∧ n < 2 ^ 31 ∧ m < 16 ∧ p < 16
theorem or_add {a b k : Nat} (hb : b < 2 ^ k) : a * 2 ^ k ||| b = a * 2 ^ k + b := by
  rw [← Nat.shiftLeft_eq, ← Nat.shiftLeft_add_eq_or_of_lt hb, Nat.shiftLeft_eq]
theorem enc_lt {d n m p : Nat} (h : okE d n m p) : d * 2 ^ 40 + n * 2 ^ 8 + m * 2 ^ 4 + p < 2 ^ 62 := by
  obtain ⟨h1, h2, h3, h4⟩ := h
  omega
theorem nI_i2l {n : Nat} (h : n < 2 ^ 31) : (nI n).toInt64 = lN n := nI_l h
set_option maxRecDepth 10000 in
theorem enc_of {d n m p : Nat} (h : okE d n m p) : (((lsl (nI d).toInt64 40) ||| (lsl (nI n).toInt64 8)) ||| ((nI m <<< ((4 : Int32) &&& 31)).toInt64)) ||| ((nI p &&& 15).toInt64) = enc d n m p := by
  obtain ⟨h1, h2, h3, h4⟩ := h
  have e1 : lsl (nI d).toInt64 40 = lN (d * 2 ^ 40) := by
    rw [nI_l (by omega)]
    exact wb_shl d (k := 40) (by decide)
  have e2 : lsl (nI n).toInt64 8 = lN (n * 2 ^ 8) := by
    rw [nI_l h2]
    exact wb_shl n (k := 8) (by decide)
  have e3 : (nI m <<< ((4 : Int32) &&& 31)).toInt64 = lN (m * 2 ^ 4) := by
    have h9 : ∀ m, m < 16 → (nI m <<< ((4 : Int32) &&& 31)).toInt64 = lN (m * 2 ^ 4) := by decide +kernel
    exact h9 m h3
  have e4 : (nI p &&& 15).toInt64 = lN p := by
    have h9 : ∀ p, p < 16 → (nI p &&& 15).toInt64 = lN p := by decide +kernel
    exact h9 p h4
  rw [e1, e2, e3, e4, wb_or (by omega) (by omega), or_add (by omega)]
  have e5 : d * 2 ^ 40 + n * 2 ^ 8 = (d * 2 ^ 32 + n) * 2 ^ 8 := by omega
  rw [e5, wb_or (by omega) (by omega), or_add (by omega)]
  have e6 : (d * 2 ^ 32 + n) * 2 ^ 8 + m * 2 ^ 4 = ((d * 2 ^ 32 + n) * 2 ^ 4 + m) * 2 ^ 4 := by omega
  rw [e6, wb_or (by omega) (by omega), or_add (by omega)]
  unfold enc
  congr 1
  omega
theorem enc_day {d n m p : Nat} (h : okE d n m p) : (lusr (enc d n m p) 40).toInt32 = nI d := by
  have hl := enc_lt h
  obtain ⟨h1, h2, h3, h4⟩ := h
  have e1 : lusr (enc d n m p) 40 = lN ((d * 2 ^ 40 + n * 2 ^ 8 + m * 2 ^ 4 + p) / 2 ^ 40) := wb_shr (k := 40) (by omega) (by decide)
  rw [e1, lN_i, show (d * 2 ^ 40 + n * 2 ^ 8 + m * 2 ^ 4 + p) / 2 ^ 40 = d by omega]
theorem nI_mod (n : Nat) : nI n = nI (n % 2 ^ 32) := by
  show Int32.ofNat n = Int32.ofNat (n % 2 ^ 32)
  apply Int32.toBitVec_inj.mp
  show BitVec.ofNat 32 n = BitVec.ofNat 32 (n % 2 ^ 32)
  apply BitVec.eq_of_toNat_eq
  simp
theorem enc_num {d n m p : Nat} (h : okE d n m p) : (lusr (enc d n m p) 8).toInt32 = nI n := by
  have hl := enc_lt h
  obtain ⟨h1, h2, h3, h4⟩ := h
  have e1 : lusr (enc d n m p) 8 = lN ((d * 2 ^ 40 + n * 2 ^ 8 + m * 2 ^ 4 + p) / 2 ^ 8) := wb_shr (k := 8) (by omega) (by decide)
  rw [e1, lN_i, nI_mod, show (d * 2 ^ 40 + n * 2 ^ 8 + m * 2 ^ 4 + p) / 2 ^ 8 % 2 ^ 32 = n by omega]
theorem nI_m15 (n : Nat) : nI n &&& 15 = nI (n % 16) := by
  rw [nI_mod n, pk_andN (Nat.mod_lt _ (by decide)) 4 (by decide +kernel)]
  congr 1
  omega
theorem nI_m3 (n : Nat) : nI n &&& 3 = nI (n % 4) := by
  rw [nI_mod n, pk_andN (Nat.mod_lt _ (by decide)) 2 (by decide +kernel)]
  congr 1
  omega
theorem enc_mark {d n m p : Nat} (h : okE d n m p) : ((lusr (enc d n m p) 4).toInt32) &&& 15 = nI m := by
  have hl := enc_lt h
  obtain ⟨h1, h2, h3, h4⟩ := h
  have e1 : lusr (enc d n m p) 4 = lN ((d * 2 ^ 40 + n * 2 ^ 8 + m * 2 ^ 4 + p) / 2 ^ 4) := wb_shr (k := 4) (by omega) (by decide)
  rw [e1, lN_i, nI_m15, show (d * 2 ^ 40 + n * 2 ^ 8 + m * 2 ^ 4 + p) / 2 ^ 4 % 16 = m by omega]
theorem enc_place {d n m p : Nat} (h : okE d n m p) : (enc d n m p).toInt32 &&& 15 = nI p := by
  obtain ⟨h1, h2, h3, h4⟩ := h
  unfold enc
  rw [lN_i, nI_m15, show (d * 2 ^ 40 + n * 2 ^ 8 + m * 2 ^ 4 + p) % 16 = p by omega]
/-- the masks 3, 12, 15 of a slip's place -/
theorem enc_mask {d n m p : Nat} (h : okE d n m p) {k : Nat} (hk : k = 3 ∨ k = 12 ∨ k = 15) : enc d n m p &&& (nI k).toInt64 = lN (p &&& k) := by
  have hl := enc_lt h
  obtain ⟨h1, h2, h3, h4⟩ := h
  unfold enc
  rw [nI_l (by omega), wb_and (by omega) (by omega)]
  congr 1
  have e : d * 2 ^ 40 + n * 2 ^ 8 + m * 2 ^ 4 + p = (d * 2 ^ 36 + n * 2 ^ 4 + m) * 2 ^ 4 + p := by omega
  rw [e, ← or_add (by omega), Nat.and_or_distrib_right]
  have h9 : (d * 2 ^ 36 + n * 2 ^ 4 + m) * 2 ^ 4 &&& k = 0 := by
    have e2 : k = k % 2 ^ 4 := by omega
    apply Nat.eq_of_testBit_eq
    intro i
    rw [Nat.testBit_and, Nat.zero_testBit, ← Nat.shiftLeft_eq, Nat.testBit_shiftLeft]
    by_cases hi : 4 ≤ i
    · have : k.testBit i = false := Nat.testBit_lt_two_pow (Nat.lt_of_lt_of_le (by omega : k < 2 ^ 4) (Nat.pow_le_pow_right (by decide) hi))
      rw [this, Bool.and_false]
    · simp [hi]
  rw [h9, Nat.zero_or]
theorem enc_le {d n m p d' n' m' p' : Nat} (h : okE d n m p) (h' : okE d' n' m' p') : (lg_cmp (enc d n m p) (enc d' n' m' p') ≤ 0) ↔ d * 2 ^ 40 + n * 2 ^ 8 + m * 2 ^ 4 + p ≤ d' * 2 ^ 40 + n' * 2 ^ 8 + m' * 2 ^ 4 + p' := by
  have h1 := enc_lt h
  have h2 := enc_lt h'
  rw [lg_cmp_le]
  exact pk_lLE (Nat.lt_trans h1 (by decide)) (Nat.lt_trans h2 (by decide))
theorem cmp_lN {a b : Nat} (ha : a < 2 ^ 63) (hb : b < 2 ^ 63) : (lg_cmp (lN a) (lN b) = 0) ↔ a = b := by
  rw [lg_cmp_eq]
  exact pk_lEQ ha hb
