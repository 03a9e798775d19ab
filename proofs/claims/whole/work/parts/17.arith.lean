/-! numbers and bits -/
theorem zwr_id {x : Int} (h1 : -2147483648 ≤ x) (h2 : x < 2147483648) : zwr x = x := Int32.toInt_ofInt_of_le (by omega) (by omega)
theorem zwl_id {x : Int} (h1 : -9223372036854775808 ≤ x) (h2 : x < 9223372036854775808) : zwl x = x := Int64.toInt_ofInt_of_le (by omega) (by omega)
theorem zmu_ne {M : zM} {k j a b : Nat} {v : Int} (h : ¬ (a = k ∧ b = j)) : zmu M k j v a b = M a b := by unfold zmu; rw [if_neg h]
theorem zmu_kf {M : zM} {k j a : Nat} {v : Int} (h : a ≠ k) : zmu M k j v a = M a := by funext b; exact zmu_k h
theorem zoN (a : Nat) : Int32.ofInt (a : Int) = nI a := Int32.ofInt_eq_ofNat ..
theorem zbvN (a : Nat) : (nI a).toBitVec = BitVec.ofNat 32 a := rfl
theorem zand_nat {a b : Nat} (ha : a < 2147483648) : zand (a : Int) (b : Int) = ((a &&& b : Nat) : Int) := by
  unfold zand
  rw [zoN, zoN]
  show (BitVec.ofNat 32 a &&& BitVec.ofNat 32 b).toInt = _
  have h1 : (BitVec.ofNat 32 a &&& BitVec.ofNat 32 b).toNat = a &&& b := by
    rw [← BitVec.ofNat_and, BitVec.toNat_ofNat]
    have : a &&& b ≤ a := Nat.and_le_left
    exact Nat.mod_eq_of_lt (by omega)
  rw [BitVec.toInt_eq_toNat_of_lt (by rw [h1]; have : a &&& b ≤ a := Nat.and_le_left; omega), h1]
theorem zor_nat {a b : Nat} (ha : a < 2147483648) (hb : b < 2147483648) : zor (a : Int) (b : Int) = ((a ||| b : Nat) : Int) := by
  unfold zor
  rw [zoN, zoN]
  show (BitVec.ofNat 32 a ||| BitVec.ofNat 32 b).toInt = _
  have h2 : a ||| b < 2 ^ 31 := Nat.or_lt_two_pow (by omega) (by omega)
  have h1 : (BitVec.ofNat 32 a ||| BitVec.ofNat 32 b).toNat = a ||| b := by
    rw [← BitVec.ofNat_or, BitVec.toNat_ofNat]
    exact Nat.mod_eq_of_lt (by omega)
  rw [BitVec.toInt_eq_toNat_of_lt (by rw [h1]; omega), h1]
theorem zxor_nat {a b : Nat} (ha : a < 2147483648) (hb : b < 2147483648) : zxor (a : Int) (b : Int) = ((a ^^^ b : Nat) : Int) := by
  unfold zxor
  rw [zoN, zoN]
  show (BitVec.ofNat 32 a ^^^ BitVec.ofNat 32 b).toInt = _
  have h2 : a ^^^ b < 2 ^ 31 := Nat.xor_lt_two_pow (by omega) (by omega)
  have h1 : (BitVec.ofNat 32 a ^^^ BitVec.ofNat 32 b).toNat = a ^^^ b := by
    rw [← BitVec.ofNat_xor, BitVec.toNat_ofNat]
    exact Nat.mod_eq_of_lt (by omega)
  rw [BitVec.toInt_eq_toNat_of_lt (by rw [h1]; omega), h1]
theorem zsl32 : ∀ n, n < 32 → ((nI n &&& 31).toBitVec.smod 32).toNat = n := by decide +kernel
theorem zsu32 : ∀ n, n < 32 → (((nI n).toUInt32 &&& Int32.toUInt32 31).toBitVec % 32).toNat = n := by decide +kernel
theorem zshl_nat {a k : Nat} (hk : k < 32) (h : a * 2 ^ k < 2147483648) : zshl (a : Int) (k : Int) = ((a * 2 ^ k : Nat) : Int) := by
  unfold zshl
  rw [zoN, zoN, pk_shlN _ k (zsl32 k hk) (by omega), nI_toInt (by omega)]
theorem zshr_nat {a k : Nat} (hk : k < 32) (h : a < 2147483648) : zshr (a : Int) (k : Int) = ((a / 2 ^ k : Nat) : Int) := by
  unfold zshr
  rw [zoN, zoN, pk_shrN (by omega) _ k (zsl32 k hk), nI_toInt]
  exact Nat.lt_of_le_of_lt (Nat.div_le_self _ _) (by omega)
theorem zushr_nat {a k : Nat} (hk : k < 32) (h : a < 2147483648) : zushr (a : Int) (k : Int) = ((a / 2 ^ k : Nat) : Int) := by
  unfold zushr
  rw [zoN, zoN, pk_ushrN (by omega) _ k (zsu32 k hk), nI_toInt]
  exact Nat.lt_of_le_of_lt (Nat.div_le_self _ _) (by omega)
theorem zbit_nat {a k : Nat} (hk : k < 32) (h : a < 2147483648) : zand (zshr (a : Int) (k : Int)) 1 = if a.testBit k then 1 else 0 := by
  rw [zshr_nat hk h]
  have h2 : a / 2 ^ k < 2147483648 := Nat.lt_of_le_of_lt (Nat.div_le_self _ _) h
  have := zand_nat (b := 1) h2
  rw [show ((1 : Nat) : Int) = 1 from rfl] at this
  rw [this, Nat.and_one_is_mod, Nat.testBit_eq_decide_div_mod_eq]
  by_cases q : a / 2 ^ k % 2 = 1
  · simp [q]
  · have : a / 2 ^ k % 2 = 0 := by omega
    simp [this]
theorem zandn_nat {a b : Nat} (ha : a < 2147483648) (hb : b < 2147483648) : zand (a : Int) (zxor (b : Int) (-1)) = ((a ^^^ (a &&& b) : Nat) : Int) := by
  unfold zand zxor
  rw [Int32.ofInt_toInt, zoN, zoN]
  show (BitVec.ofNat 32 a &&& (BitVec.ofNat 32 b ^^^ BitVec.ofInt 32 (-1))).toInt = _
  have h3 : BitVec.ofNat 32 a &&& (BitVec.ofNat 32 b ^^^ BitVec.ofInt 32 (-1)) = BitVec.ofNat 32 (a ^^^ (a &&& b)) := by
    apply BitVec.eq_of_getLsbD_eq
    intro i hi
    have h4 : BitVec.ofInt 32 (-1) = BitVec.allOnes 32 := by decide
    rw [h4]
    rw [BitVec.getLsbD_and, BitVec.getLsbD_xor, BitVec.getLsbD_allOnes, BitVec.getLsbD_ofNat, BitVec.getLsbD_ofNat, BitVec.getLsbD_ofNat, Nat.testBit_xor, Nat.testBit_and, decide_eq_true hi]
    cases a.testBit i <;> cases b.testBit i <;> rfl
  have h5 : a ^^^ (a &&& b) < 2 ^ 31 := Nat.xor_lt_two_pow (by omega) (Nat.lt_of_le_of_lt Nat.and_le_left (by omega))
  rw [h3]
  have h1 : (BitVec.ofNat 32 (a ^^^ (a &&& b))).toNat = a ^^^ (a &&& b) := by
    rw [BitVec.toNat_ofNat]; exact Nat.mod_eq_of_lt (by omega)
  rw [BitVec.toInt_eq_toNat_of_lt (by rw [h1]; omega), h1]
theorem zdiv_nat {a b : Nat} (ha : a < 2147483648) (h0 : 0 < b) (hb : b < 2147483648) : zdiv (a : Int) (b : Int) = ((a / b : Nat) : Int) := by
  unfold zdiv
  rw [zoN, zoN, pk_div (by omega) h0 (by omega), nI_toInt (Nat.lt_of_le_of_lt (Nat.div_le_self _ _) (by omega))]
theorem zrem_nat {a b : Nat} (ha : a < 2147483648) (h0 : 0 < b) (hb : b < 2147483648) : zrem (a : Int) (b : Int) = ((a % b : Nat) : Int) := by
  unfold zrem
  rw [zoN, zoN, pk_rem (by omega) h0 (by omega), nI_toInt (Nat.lt_of_le_of_lt (Nat.mod_le _ _) (by omega))]
theorem zldiv_nat {a b : Nat} (ha : a < 9223372036854775808) (h0 : 0 < b) (hb : b < 9223372036854775808) : zldiv (a : Int) (b : Int) = ((a / b : Nat) : Int) := by
  unfold zldiv
  rw [Int64.ofInt_eq_ofNat, Int64.ofInt_eq_ofNat]
  show (lN a / lN b).toInt = _
  rw [pk_lDiv (by omega) h0 (by omega), pk_lT (Nat.lt_of_le_of_lt (Nat.div_le_self _ _) (by omega))]
theorem zlrem_nat {a b : Nat} (ha : a < 9223372036854775808) (h0 : 0 < b) (hb : b < 9223372036854775808) : zlrem (a : Int) (b : Int) = ((a % b : Nat) : Int) := by
  unfold zlrem
  rw [Int64.ofInt_eq_ofNat, Int64.ofInt_eq_ofNat]
  show (lN a - lN a / lN b * lN b).toInt = _
  rw [pk_lRem (by omega) h0 (by omega), pk_lT (Nat.lt_of_le_of_lt (Nat.mod_le _ _) (by omega))]
/-- a way to use a contract that gives more than is wanted -/
theorem zif_t {c A B : Prop} [Decidable c] (h : c) (a : A) : if c then A else B := by rw [if_pos h]; exact a
theorem zif_f {c A B : Prop} [Decidable c] (h : ¬ c) (b : B) : if c then A else B := by rw [if_neg h]; exact b
theorem zif_c {c A B : Prop} [Decidable c] (a : c → A) (b : ¬ c → B) : if c then A else B := by
  by_cases h : c
  · rw [if_pos h]; exact a h
  · rw [if_neg h]; exact b h
theorem zbl_i {x : Int} {k : Int → Prop} (h : x = 0 ∨ x = 1) (hk : k x) : zbl x k := by
  unfold zbl
  rcases h with rfl | rfl
  · rw [if_pos rfl]; exact hk
  · rw [if_neg (by decide), if_pos rfl]; exact hk
