/-! how many bits; the lowest; counting -/
theorem zushr1 {a : Nat} (h : a < 2147483648) : zushr (a : Int) 1 = ((a / 2 : Nat) : Int) := zushr_nat (k := 1) (by omega) h
theorem zushr2 {a : Nat} (h : a < 2147483648) : zushr (a : Int) 2 = ((a / 4 : Nat) : Int) := zushr_nat (k := 2) (by omega) h
theorem zushr4 {a : Nat} (h : a < 2147483648) : zushr (a : Int) 4 = ((a / 16 : Nat) : Int) := zushr_nat (k := 4) (by omega) h
theorem zushr8 {a : Nat} (h : a < 2147483648) : zushr (a : Int) 8 = ((a / 256 : Nat) : Int) := zushr_nat (k := 8) (by omega) h
theorem zushr16 {a : Nat} (h : a < 2147483648) : zushr (a : Int) 16 = ((a / 65536 : Nat) : Int) := zushr_nat (k := 16) (by omega) h
def bcn (n : Nat) : Nat := n % 2 + n / 2 % 2 + n / 4 % 2 + n / 8 % 2 + n / 16 % 2 + n / 32 % 2 + n / 64 % 2 + n / 128 % 2 + n / 256 % 2 + n / 512 % 2 + n / 1024 % 2 + n / 2048 % 2 + n / 4096 % 2 + n / 8192 % 2
def bcA (x : Nat) : Nat := x - (x / 2 &&& 1431655765)
def bcB (y : Nat) : Nat := (y &&& 858993459) + (y / 4 &&& 858993459)
def bcC (z : Nat) : Nat := z + z / 16 &&& 252645135
def bcD (t : Nat) : Nat := (t + t / 256) + (t + t / 256) / 65536 &&& 63
theorem bcn_ok : ∀ a, a < 128 → ∀ b, b < 128 → bcD (bcC (bcB (bcA (128 * a + b)))) = bcn (128 * a + b) := by decide +kernel
def ntz (n : Nat) : Nat := if n % 2 = 1 then 0 else if n / 2 % 2 = 1 then 1 else if n / 4 % 2 = 1 then 2 else if n / 8 % 2 = 1 then 3 else if n / 16 % 2 = 1 then 4 else if n / 32 % 2 = 1 then 5 else if n / 64 % 2 = 1 then 6 else if n / 128 % 2 = 1 then 7 else if n / 256 % 2 = 1 then 8 else if n / 512 % 2 = 1 then 9 else if n / 1024 % 2 = 1 then 10 else if n / 2048 % 2 = 1 then 11 else if n / 4096 % 2 = 1 then 12 else if n / 8192 % 2 = 1 then 13 else 32
def ntA (v : Nat) : Nat := if 256 < v then (if 16 < v / 256 then (if 4 < v / 256 / 16 then 15 + v / 256 / 16 / 4 / 2 else 13 + v / 256 / 16 / 2) else if 4 < v / 256 then 11 + v / 256 / 4 / 2 else 9 + v / 256 / 2) else if 16 < v then (if 4 < v / 16 then 7 + v / 16 / 4 / 2 else 5 + v / 16 / 2) else if 4 < v then 3 + v / 4 / 2 else 1 + v / 2
theorem ntz_ok : ∀ a, a < 128 → ∀ b, b < 128 → 128 * a + b = 0 ∨ (if 0 < (128 * a + b - 1) ^^^ ((128 * a + b - 1) &&& (128 * a + b)) then ntA ((128 * a + b - 1) ^^^ ((128 * a + b - 1) &&& (128 * a + b))) else 0) = ntz (128 * a + b) := by decide +kernel
theorem zand_comm (x y : Int) : zand x y = zand y x := by unfold zand; rw [Int32.and_comm]
section BC
variable {d : Nat} {M L : zM} {Q : Int → zW → Prop}
theorem e_jd_bitCount {x : Nat} (hx : x < 16384) (h : Q (bcn x : Int) (SH, M, L)) : zEv (d + 1) m_jd_bitCount [zI (x : Int)] (SH, M, L) Q := by
  refine b_jd_bitCount (g_jd_bitCount_0 ?_)
  have e0 := bcn_ok (x / 128) (by omega) (x % 128) (by omega)
  rw [show 128 * (x / 128) + x % 128 = x by omega] at e0
  rw [← e0] at h
  have a1 : x / 2 &&& 1431655765 ≤ x / 2 := Nat.and_le_left
  have h1 : zwr ((x : Int) - zand (zushr (x : Int) 1) 1431655765) = (bcA x : Int) := by
    rw [zushr1 (by omega), show zand ((x / 2 : Nat) : Int) 1431655765 = ((x / 2 &&& 1431655765 : Nat) : Int) from zand_nat (b := 1431655765) (by omega), zwr_id (by omega) (by omega)]
    unfold bcA
    omega
  have l1 : bcA x ≤ x := by unfold bcA; omega
  rw [h1]
  generalize bcA x = y at *
  have a2 : y &&& 858993459 ≤ y := Nat.and_le_left
  have a3 : y / 4 &&& 858993459 ≤ y / 4 := Nat.and_le_left
  have h2 : zwr (zand (y : Int) 858993459 + zand (zushr (y : Int) 2) 858993459) = (bcB y : Int) := by
    rw [zushr2 (by omega), show zand ((y / 4 : Nat) : Int) 858993459 = ((y / 4 &&& 858993459 : Nat) : Int) from zand_nat (b := 858993459) (by omega), show zand ((y : Nat) : Int) 858993459 = ((y &&& 858993459 : Nat) : Int) from zand_nat (b := 858993459) (by omega), zwr_id (by omega) (by omega)]
    unfold bcB
    omega
  have l2 : bcB y ≤ 2 * y := by unfold bcB; omega
  rw [h2]
  generalize bcB y = z at *
  have a4 : z + z / 16 &&& 252645135 ≤ z + z / 16 := Nat.and_le_left
  have h3 : zand (zwr ((z : Int) + zushr (z : Int) 4)) 252645135 = (bcC z : Int) := by
    rw [zushr4 (by omega), zwr_id (by omega) (by omega), show ((z : Int) + ((z / 16 : Nat) : Int)) = ((z + z / 16 : Nat) : Int) by omega]
    exact zand_nat (b := 252645135) (by omega)
  have l3 : bcC z ≤ 2 * z := by unfold bcC; omega
  rw [h3]
  generalize bcC z = t at *
  rw [zushr8 (by omega), zwr_id (x := (t : Int) + ((t / 256 : Nat) : Int)) (by omega) (by omega), show ((t : Int) + ((t / 256 : Nat) : Int)) = ((t + t / 256 : Nat) : Int) by omega, zushr16 (by omega), zwr_id (by omega) (by omega), show (((t + t / 256 : Nat) : Int) + (((t + t / 256) / 65536 : Nat) : Int)) = (((t + t / 256) + (t + t / 256) / 65536 : Nat) : Int) by omega]
  rw [show zand (((t + t / 256) + (t + t / 256) / 65536 : Nat) : Int) 63 = (((t + t / 256) + (t + t / 256) / 65536 &&& 63 : Nat) : Int) from zand_nat (b := 63) (by omega)]
  exact h
theorem e_jd_ntz {x : Nat} (hx : x < 16384) (h : Q (ntz x : Int) (SH, M, L)) : zEv (d + 1) m_jd_numberOfTrailingZeros [zI (x : Int)] (SH, M, L) Q := by
  refine b_jd_numberOfTrailingZeros (g_jd_numberOfTrailingZeros_0 ?_)
  rw [zand_comm (zxor (x : Int) (-1))]
  rcases Nat.eq_zero_or_pos x with q | q
  · subst q
    exact h
  · have e0 := ntz_ok (x / 128) (by omega) (x % 128) (by omega)
    rw [show 128 * (x / 128) + x % 128 = x by omega] at e0
    have e1 := e0.resolve_left (by omega)
    rw [← e1] at h
    rw [zwr_id (x := (x : Int) - 1) (by omega) (by omega), show (x : Int) - 1 = ((x - 1 : Nat) : Int) by omega, zandn_nat (by omega) (by omega)]
    have hv : (x - 1) ^^^ (x - 1 &&& x) < 2 ^ 14 := Nat.xor_lt_two_pow (by omega) (Nat.lt_of_le_of_lt Nat.and_le_left (by omega))
    generalize (x - 1) ^^^ (x - 1 &&& x) = v at *
    simp (disch := omega) only [zck_t, if_pos, if_neg, if_true, if_false, zwr_id, Int.toNat_natCast, zushr1, zushr2, zushr4, zushr8]
    by_cases c0 : 0 < v
    · rw [if_pos c0] at h
      unfold ntA at h
      by_cases c1 : 256 < v
      · by_cases c2 : 16 < v / 256
        · by_cases c3 : 4 < v / 256 / 16
          · omega
          · simp (disch := omega) only [zck_t, if_pos, if_neg, if_true, if_false, zwr_id, Int.toNat_natCast, zushr1, zushr2, zushr4, zushr8]
            simp (disch := omega) only [if_pos, if_neg] at h
            rw [show ((13 + v / 256 / 16 / 2 : Nat) : Int) = 1 + 8 + 4 + ((v / 256 / 16 / 2 : Nat) : Int) by omega] at h
            exact h
        · by_cases c3 : 4 < v / 256
          · simp (disch := omega) only [zck_t, if_pos, if_neg, if_true, if_false, zwr_id, Int.toNat_natCast, zushr1, zushr2, zushr4, zushr8]
            simp (disch := omega) only [if_pos, if_neg] at h
            rw [show ((11 + v / 256 / 4 / 2 : Nat) : Int) = 1 + 8 + 2 + ((v / 256 / 4 / 2 : Nat) : Int) by omega] at h
            exact h
          · simp (disch := omega) only [zck_t, if_pos, if_neg, if_true, if_false, zwr_id, Int.toNat_natCast, zushr1, zushr2, zushr4, zushr8]
            simp (disch := omega) only [if_pos, if_neg] at h
            rw [show ((9 + v / 256 / 2 : Nat) : Int) = 1 + 8 + ((v / 256 / 2 : Nat) : Int) by omega] at h
            exact h
      · by_cases c2 : 16 < v
        · by_cases c3 : 4 < v / 16
          · simp (disch := omega) only [zck_t, if_pos, if_neg, if_true, if_false, zwr_id, Int.toNat_natCast, zushr1, zushr2, zushr4, zushr8]
            simp (disch := omega) only [if_pos, if_neg] at h
            rw [show ((7 + v / 16 / 4 / 2 : Nat) : Int) = 1 + 4 + 2 + ((v / 16 / 4 / 2 : Nat) : Int) by omega] at h
            exact h
          · simp (disch := omega) only [zck_t, if_pos, if_neg, if_true, if_false, zwr_id, Int.toNat_natCast, zushr1, zushr2, zushr4, zushr8]
            simp (disch := omega) only [if_pos, if_neg] at h
            rw [show ((5 + v / 16 / 2 : Nat) : Int) = 1 + 4 + ((v / 16 / 2 : Nat) : Int) by omega] at h
            exact h
        · by_cases c3 : 4 < v
          · simp (disch := omega) only [zck_t, if_pos, if_neg, if_true, if_false, zwr_id, Int.toNat_natCast, zushr1, zushr2, zushr4, zushr8]
            simp (disch := omega) only [if_pos, if_neg] at h
            rw [show ((3 + v / 4 / 2 : Nat) : Int) = 1 + 2 + ((v / 4 / 2 : Nat) : Int) by omega] at h
            exact h
          · simp (disch := omega) only [zck_t, if_pos, if_neg, if_true, if_false, zwr_id, Int.toNat_natCast, zushr1, zushr2, zushr4, zushr8]
            simp (disch := omega) only [if_pos, if_neg] at h
            rw [show ((1 + v / 2 : Nat) : Int) = 1 + ((v / 2 : Nat) : Int) by omega] at h
            exact h
    · have v0 : v = 0 := by omega
      subst v0
      exact h
end BC
/-- how many below k -/
def cnt (p : Nat → Bool) : Nat → Nat
  | 0 => 0
  | k + 1 => cnt p k + (if p k then 1 else 0)
theorem cnt_le (p : Nat → Bool) : ∀ k, cnt p k ≤ k
  | 0 => by simp [cnt]
  | k + 1 => by
    have := cnt_le p k
    unfold cnt
    split <;> omega
theorem cnt_s {p : Nat → Bool} {k : Nat} (h : p k = true) : cnt p (k + 1) = cnt p k + 1 := by
  show cnt p k + _ = _
  rw [if_pos h]
theorem cnt_n {p : Nat → Bool} {k : Nat} (h : p k = false) : cnt p (k + 1) = cnt p k := by
  show cnt p k + _ = _
  rw [h]; rfl
theorem cnt_c {p q : Nat → Bool} : ∀ {k : Nat}, (∀ i, i < k → p i = q i) → cnt p k = cnt q k
  | 0, _ => rfl
  | k + 1, h => by
    show cnt p k + _ = cnt q k + _
    rw [cnt_c (fun i hi => h i (by omega)), h k (by omega)]
theorem bcn_cnt : ∀ n, n < 64 → bcn n = cnt (fun a => n.testBit a) 6 := by decide +kernel
theorem bcn14 : ∀ a, a < 128 → ∀ b, b < 128 → bcn (128 * a + b) = cnt (fun i => (128 * a + b).testBit i) 14 := by decide +kernel
theorem bcn_cnt14 {n : Nat} (h : n < 16384) : bcn n = cnt (fun i => n.testBit i) 14 := by
  have e := bcn14 (n / 128) (by omega) (n % 128) (by omega)
  rw [show 128 * (n / 128) + n % 128 = n by omega] at e
  exact e
theorem ntz14 : ∀ a, a < 128 → ∀ b, b < 128 → (128 * a + b = 0 ∧ ntz (128 * a + b) = 32) ∨ (ntz (128 * a + b) < 14 ∧ (128 * a + b).testBit (ntz (128 * a + b)) = true ∧ (128 * a + b) % 2 ^ ntz (128 * a + b) = 0) := by decide +kernel
/-- the lowest bit -/
theorem ntz_is {n : Nat} (h : n < 16384) (h0 : n ≠ 0) : ntz n < 14 ∧ n.testBit (ntz n) = true ∧ ∀ i, i < ntz n → n.testBit i = false := by
  have e := ntz14 (n / 128) (by omega) (n % 128) (by omega)
  rw [show 128 * (n / 128) + n % 128 = n by omega] at e
  obtain ⟨e1, e2, e3⟩ := e.resolve_left (fun q => h0 q.1)
  refine ⟨e1, e2, fun i hi => ?_⟩
  have := Nat.testBit_mod_two_pow n (ntz n) i
  rw [e3, Nat.zero_testBit, decide_eq_true hi, Bool.true_and] at this
  exact this.symm
