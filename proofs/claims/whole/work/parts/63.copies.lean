/-! copies, by the class: points -/
/-- the set of what is so -/
def bs (f : Nat → Bool) : Nat → Nat
  | 0 => 0
  | k + 1 => if f k then bs f k ||| 2 ^ k else bs f k
theorem bs_bit {f : Nat → Bool} {i : Nat} : ∀ k, (bs f k).testBit i = (decide (i < k) && f i)
  | 0 => by simp [bs]
  | k + 1 => by
    have ih := bs_bit (f := f) (i := i) k
    show (if f k then bs f k ||| 2 ^ k else bs f k).testBit i = _
    by_cases e : i = k
    · subst e
      rw [decide_eq_false (show ¬ i < i by omega), Bool.false_and] at ih
      rw [decide_eq_true (show i < i + 1 by omega), Bool.true_and]
      cases g : f i
      · rw [if_neg (by decide)]; exact ih
      · rw [if_pos rfl, or_bit, ih]; simp
    · have : decide (i < k + 1) = decide (i < k) := decide_eq_decide.mpr (by omega)
      rw [this, ← ih]
      cases g : f k
      · rw [if_neg (by decide)]
      · rw [if_pos rfl, or_bit]; simp [Ne.symm e]
theorem bs_lt {f : Nat → Bool} : ∀ k, bs f k < 2 ^ k
  | 0 => by simp [bs]
  | k + 1 => by
    have ih := bs_lt (f := f) k
    have e : 2 ^ (k + 1) = 2 * 2 ^ k := by rw [Nat.pow_succ, Nat.mul_comm]
    show (if f k then bs f k ||| 2 ^ k else bs f k) < _
    split
    · exact Nat.or_lt_two_pow (by omega) (by omega)
    · omega
theorem cnt_mo {p : Nat → Bool} {i : Nat} : ∀ {q : Nat}, i ≤ q → cnt p i ≤ cnt p q
  | 0, h => by rw [show i = 0 by omega]; exact Nat.le_refl _
  | q + 1, h => by
    by_cases e : i = q + 1
    · rw [e]; exact Nat.le_refl _
    · have := cnt_mo (p := p) (i := i) (q := q) (by omega)
      show _ ≤ cnt p q + _
      omega
theorem cnt_up {p : Nat → Bool} {i q : Nat} (h : i < q) (hp : p i = true) : cnt p i < cnt p q := by
  have h1 := cnt_s hp
  have h2 := cnt_mo (p := p) (i := i + 1) (q := q) (by omega)
  omega
theorem cnt_ex {p : Nat → Bool} {c : Nat} : ∀ {k : Nat}, c < cnt p k → ∃ i, i < k ∧ p i = true ∧ cnt p i = c
  | 0, h => by simp [cnt] at h
  | k + 1, h => by
    by_cases e : c < cnt p k
    · obtain ⟨i, h1, h2⟩ := cnt_ex e
      exact ⟨i, by omega, h2⟩
    · cases g : p k
      · rw [cnt_n g] at h; omega
      · rw [cnt_s g] at h
        exact ⟨k, by omega, g, by omega⟩
theorem sm_add {f g : Nat → Nat} : ∀ k, sm (fun i => f i + g i) k = sm f k + sm g k
  | 0 => rfl
  | k + 1 => by
    show sm (fun i => f i + g i) k + (f k + g k) = (sm f k + f k) + (sm g k + g k)
    rw [sm_add k]; omega
theorem sm_z (k : Nat) : sm (fun _ => 0) k = 0 := sm_0 (fun _ _ => rfl)
theorem sm_swap {h : Nat → Nat → Nat} {n : Nat} : ∀ k, sm (fun q => sm (fun a => h a q) n) k = sm (fun a => sm (fun q => h a q) k) n
  | 0 => by
    show 0 = _
    exact (sm_z n).symm
  | k + 1 => by
    show sm (fun q => sm (fun a => h a q) n) k + sm (fun a => h a k) n = _
    rw [sm_swap k, ← sm_add]
    rfl
theorem sm_one {f : Nat → Nat} {i k : Nat} (hi : i < k) (h : ∀ j, j < k → j ≠ i → f j = 0) : sm f k = f i := by
  rw [sm_1 (g := fun _ => 0) (c := f i) hi (fun j hj hne => h j hj hne) (by simp), sm_z, Nat.zero_add]
/-! mixed digits -/
def spn (N : Nat → Nat) : Nat → Nat
  | 0 => 1
  | a + 1 => spn N a * (N a + 1)
def dg (N : Nat → Nat) (a p : Nat) : Nat := p / spn N a % (N a + 1)
section DG
variable {N : Nat → Nat} {a b p : Nat}
theorem spn_pos : ∀ a, 0 < spn N a
  | 0 => Nat.one_pos
  | a + 1 => Nat.mul_pos (spn_pos a) (Nat.succ_pos _)
theorem spn_dvd : ∀ {b : Nat}, a ≤ b → spn N a ∣ spn N b
  | 0, h => by rw [show a = 0 by omega]; exact Nat.dvd_refl _
  | b + 1, h => by
    by_cases e : a = b + 1
    · rw [e]; exact Nat.dvd_refl _
    · exact Nat.dvd_trans (spn_dvd (b := b) (by omega)) (Nat.dvd_mul_right _ _)
theorem spn_le (h : a ≤ b) : spn N a ≤ spn N b := Nat.le_of_dvd (spn_pos b) (spn_dvd h)
theorem dg_le : dg N a p ≤ N a := by
  have := Nat.mod_lt (p / spn N a) (show 0 < N a + 1 by omega)
  unfold dg
  omega
theorem up_mod {x n : Nat} (h : x % (n + 1) < n) : (x + 1) % (n + 1) = x % (n + 1) + 1 ∧ (x + 1) / (n + 1) = x / (n + 1) := by
  have h1 := Nat.div_add_mod x (n + 1)
  have e : x + 1 = (x % (n + 1) + 1) + (n + 1) * (x / (n + 1)) := by omega
  constructor
  · rw [e, Nat.add_mul_mod_self_left, Nat.mod_eq_of_lt (by omega)]
  · rw [e, Nat.add_mul_div_left _ _ (by omega), Nat.div_eq_of_lt (by omega), Nat.zero_add]
theorem dg_s (h : dg N a p < N a) : dg N a (p + spn N a) = dg N a p + 1 := by
  unfold dg at *
  rw [Nat.add_div_right _ (spn_pos a)]
  exact (up_mod h).1
theorem dg_hi (h : dg N a p < N a) (hb : a < b) : (p + spn N a) / spn N b = p / spn N b := by
  obtain ⟨m, hm⟩ := spn_dvd (N := N) (show a + 1 ≤ b by omega)
  have h1 : spn N (a + 1) = spn N a * (N a + 1) := rfl
  unfold dg at h
  rw [hm, h1, ← Nat.div_div_eq_div_mul, ← Nat.div_div_eq_div_mul, ← Nat.div_div_eq_div_mul, ← Nat.div_div_eq_div_mul, Nat.add_div_right _ (spn_pos a), (up_mod h).2]
theorem dg_o (h : dg N a p < N a) (hb : b ≠ a) : dg N b (p + spn N a) = dg N b p := by
  rcases Nat.lt_or_gt_of_ne hb with q | q
  · obtain ⟨m, hm⟩ := spn_dvd (N := N) (show b + 1 ≤ a by omega)
    have h1 : spn N (b + 1) = spn N b * (N b + 1) := rfl
    unfold dg
    rw [hm, h1, Nat.mul_assoc, Nat.add_mul_div_left _ _ (spn_pos b), Nat.add_mul_mod_self_left]
  · unfold dg
    rw [dg_hi h q]
theorem dg_lt (h : dg N a p < N a) (hb : a < b) (hp : p < spn N b) : p + spn N a < spn N b := by
  have := dg_hi h hb
  rw [Nat.div_eq_of_lt hp] at this
  exact (Nat.div_eq_zero_iff_lt (spn_pos b)).mp this
theorem dg_dn (h : 0 < dg N a p) : spn N a ≤ p ∧ dg N a (p - spn N a) < N a := by
  have h0 : spn N a ≤ p := by
    rcases Nat.lt_or_ge p (spn N a) with q | q
    · unfold dg at h
      rw [Nat.div_eq_of_lt q, Nat.zero_mod] at h
      omega
    · exact q
  refine ⟨h0, ?_⟩
  have hle := dg_le (N := N) (a := a) (p := p)
  have e : p / spn N a = (p - spn N a) / spn N a + 1 := by
    rw [← Nat.add_div_right _ (spn_pos a), Nat.sub_add_cancel h0]
  unfold dg at *
  rw [e] at h hle
  generalize (p - spn N a) / spn N a = x at *
  have h2 := Nat.mod_lt x (show 0 < N a + 1 by omega)
  rcases Nat.lt_or_ge (x % (N a + 1)) (N a) with q | q
  · exact q
  · exfalso
    have h3 : x % (N a + 1) = N a := by omega
    have h4 := Nat.div_add_mod x (N a + 1)
    have : (x + 1) % (N a + 1) = 0 := by
      rw [show x + 1 = (N a + 1) * (x / (N a + 1) + 1) by rw [Nat.mul_add]; omega, Nat.mul_mod_right]
    omega
theorem dg_all0 : ∀ k, (∀ a, a < k → dg N a p = 0) → p % spn N k = 0
  | 0, _ => by simp [spn, Nat.mod_one]
  | k + 1, h => by
    have ih := dg_all0 k (fun a ha => h a (by omega))
    have hk := h k (by omega)
    unfold dg at hk
    show p % (spn N k * (N k + 1)) = 0
    rw [Nat.mod_mul, ih, hk, Nat.mul_zero]
theorem dg_top (h : a < b) : dg N a (spn N b - 1) = N a := by
  obtain ⟨m, hm⟩ := spn_dvd (N := N) (show a + 1 ≤ b by omega)
  have h1 : spn N (a + 1) = spn N a * (N a + 1) := rfl
  have hp := spn_pos (N := N) b
  have hq := spn_pos (N := N) a
  have hm0 : 0 < m := by
    rcases Nat.eq_zero_or_pos m with q | q
    · rw [q, Nat.mul_zero] at hm; omega
    · exact q
  obtain ⟨m', rfl⟩ : ∃ m', m = m' + 1 := ⟨m - 1, by omega⟩
  have e : spn N b - 1 = (spn N a - 1) + spn N a * (N a + (N a + 1) * m') := by
    have : spn N b = spn N a + spn N a * (N a + (N a + 1) * m') := by
      rw [hm, h1, Nat.mul_assoc, Nat.mul_add (N a + 1), Nat.mul_one, show (N a + 1) * m' + (N a + 1) = (N a + (N a + 1) * m') + 1 by omega, Nat.mul_add, Nat.mul_one]
      omega
    omega
  unfold dg
  rw [e, Nat.add_mul_div_left _ _ hq, Nat.div_eq_of_lt (by omega), Nat.zero_add, Nat.add_mul_mod_self_left, Nat.mod_eq_of_lt (by omega)]
/-! how large: a product by a line that touches it -/
theorem tan_x : ∀ x, x < 21 → x * (3 ^ x * 64) ≤ 81 * 4 ^ x := by decide +kernel
theorem spn_tan : ∀ k, (∀ a, a < k → N a < 20) → spn N k * (3 ^ sm (fun a => N a + 1) k * 64 ^ k) ≤ 81 ^ k * 4 ^ sm (fun a => N a + 1) k
  | 0, _ => by simp [spn, sm]
  | k + 1, h => by
    have ih := spn_tan k (fun a ha => h a (by omega))
    have hx := tan_x (N k + 1) (by have := h k (by omega); omega)
    show spn N k * (N k + 1) * (3 ^ (sm (fun a => N a + 1) k + (N k + 1)) * 64 ^ (k + 1)) ≤ 81 ^ (k + 1) * 4 ^ (sm (fun a => N a + 1) k + (N k + 1))
    generalize sm (fun a => N a + 1) k = s at *
    generalize N k + 1 = x at *
    rw [Nat.pow_add 3, Nat.pow_add 4, Nat.pow_succ 64, Nat.pow_succ 81]
    have := Nat.mul_le_mul ih hx
    generalize spn N k = y at *
    generalize 3 ^ s = s3 at *
    generalize 4 ^ s = s4 at *
    generalize 3 ^ x = x3 at *
    generalize 4 ^ x = x4 at *
    generalize 64 ^ k = k6 at *
    generalize 81 ^ k = k8 at *
    calc y * x * (s3 * x3 * (k6 * 64)) = y * (s3 * k6) * (x * (x3 * 64)) := by ac_rfl
      _ ≤ k8 * s4 * (81 * x4) := this
      _ = k8 * 81 * (s4 * x4) := by ac_rfl
theorem tan_s : ∀ s, s < 21 → 81 ^ 6 * 4 ^ s < 1297 * (3 ^ s * 64 ^ 6) := by decide +kernel
theorem spn_1296 (h : sm (fun a => N a + 1) 6 ≤ 20) (hN : ∀ a, a < 6 → N a < 20) : spn N 6 ≤ 1296 := by
  have h1 := spn_tan 6 hN
  have h2 := tan_s _ (show sm (fun a => N a + 1) 6 < 21 by omega)
  have h3 := Nat.lt_of_le_of_lt h1 h2
  have := Nat.lt_of_mul_lt_mul_right h3
  omega
end DG
