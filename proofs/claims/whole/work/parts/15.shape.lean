/-! the shape of the heap behind the constructors: which cells there are, and what refers to what; no call changes it -/
def SH : zSh := [(9, 0, [some 1, some 4, some 7, some 21, some 47, some 50, none, some 64, some 66, some 70, some 81, some 82, some 89, some 97, some 108, some 110]),
  (2, 0, [some 2, some 3]),
  (20, 6, []),
  (20, 6, []),
  (2, 0, [some 5, some 6]),
  (20, 6, []),
  (20, 6, []),
  (6, 0, [some 8, some 9, none]),
  (24, 5, [some 11, some 13, some 15, some 17, some 19]),
  (5, 0, [some 10, none]),
  (20, 0, []),
  (5, 0, [some 12, none]),
  (20, 14, []),
  (5, 0, [some 14, none]),
  (20, 14, []),
  (5, 0, [some 16, none]),
  (20, 14, []),
  (5, 0, [some 18, none]),
  (20, 14, []),
  (5, 0, [some 20, none]),
  (20, 14, []),
  (1, 0, [some 22, none, none]),
  (23, 8, [some 23, some 26, some 29, some 32, some 35, some 38, some 41, some 44]),
  (2, 0, [some 24, some 25]),
  (20, 6, []),
  (20, 6, []),
  (2, 0, [some 27, some 28]),
  (20, 6, []),
  (20, 6, []),
  (2, 0, [some 30, some 31]),
  (20, 6, []),
  (20, 6, []),
  (2, 0, [some 33, some 34]),
  (20, 6, []),
  (20, 6, []),
  (2, 0, [some 36, some 37]),
  (20, 6, []),
  (20, 6, []),
  (2, 0, [some 39, some 40]),
  (20, 6, []),
  (20, 6, []),
  (2, 0, [some 42, some 43]),
  (20, 6, []),
  (20, 6, []),
  (2, 0, [some 45, some 46]),
  (20, 6, []),
  (20, 6, []),
  (2, 0, [some 48, some 49]),
  (20, 6, []),
  (20, 6, []),
  (6, 0, [some 51, some 52, none]),
  (24, 5, [some 54, some 56, some 58, some 60, some 62]),
  (5, 0, [some 53, none]),
  (20, 0, []),
  (5, 0, [some 55, none]),
  (20, 14, []),
  (5, 0, [some 57, none]),
  (20, 14, []),
  (5, 0, [some 59, none]),
  (20, 14, []),
  (5, 0, [some 61, none]),
  (20, 14, []),
  (5, 0, [some 63, none]),
  (20, 14, []),
  (5, 0, [some 65, none]),
  (20, 72, []),
  (4, 0, [some 67, some 69, none, none]),
  (5, 0, [some 68, none]),
  (20, 15, []),
  (20, 5, []),
  (3, 0, [some 71, some 72, some 73]),
  (24, 3, [some 75, some 77, some 79]),
  (21, 3, []),
  (5, 0, [some 74, none]),
  (20, 0, []),
  (5, 0, [some 76, none]),
  (20, 40, []),
  (5, 0, [some 78, none]),
  (20, 40, []),
  (5, 0, [some 80, none]),
  (20, 40, []),
  (20, 6, []),
  (0, 0, [some 1, some 83, some 85, some 87]),
  (5, 0, [some 84, none]),
  (20, 28, []),
  (5, 0, [some 86, none]),
  (20, 28, []),
  (5, 0, [some 88, none]),
  (20, 28, []),
  (7, 0, [some 90, some 91, some 92, some 93, some 94, some 95, some 96]),
  (22, 1296, []),
  (20, 1296, []),
  (20, 6, []),
  (20, 6, []),
  (20, 14, []),
  (20, 7, []),
  (22, 13, []),
  (8, 0, [some 1, some 82, some 98, some 101, some 103, some 105, some 106, some 107, none, none]),
  (2, 0, [some 99, some 100]),
  (20, 6, []),
  (20, 6, []),
  (5, 0, [some 102, none]),
  (20, 7, []),
  (5, 0, [some 104, none]),
  (20, 7, []),
  (20, 64, []),
  (20, 64, []),
  (20, 64, []),
  (5, 0, [some 109, none]),
  (20, 28, []),
  (5, 0, [some 111, none]),
  (20, 28, []),
  (10, 0, [some 113, some 114, none, some 115, some 116, some 117, some 118, none, none, some 119, none, none, some 120, some 121, some 122, some 123, some 124, some 125, none, none, some 126, none, some 127, some 128, some 129, some 130, some 131, some 132, some 133, some 134, some 135, some 136, some 137, none, some 138, some 139]),
  (20, 6, []),
  (20, 6, []),
  (20, 5, []),
  (20, 70, []),
  (20, 7, []),
  (20, 72, []),
  (20, 96, []),
  (20, 6, []),
  (20, 6, []),
  (20, 5, []),
  (20, 70, []),
  (20, 3, []),
  (20, 120, []),
  (20, 216, []),
  (20, 14, []),
  (20, 28, []),
  (20, 28, []),
  (20, 28, []),
  (20, 28, []),
  (20, 28, []),
  (20, 14, []),
  (20, 14, []),
  (22, 16384, []),
  (20, 14, []),
  (20, 6, []),
  (20, 5040, []),
  (20, 5040, [])]
def zb0 : zB := (SH.length, zsz SH, 0, 0)
theorem zom_i {o : Option Nat} {k : Nat → Prop} {q : Nat} (h : o = some q) (hk : k q) : zom o k := by subst h; exact hk
theorem zomm {o : Option Nat} {k' k : Nat → Prop} (h : zom o k') (f : ∀ q, k' q → k q) : zom o k := by
  cases o with
  | none => exact h
  | some q => exact f q h
theorem zit {c A' B' A B : Prop} [Decidable c] (h : if c then A' else B') (f : A' → A) (g : B' → B) : if c then A else B := by
  by_cases hc : c
  · rw [if_pos hc] at h ⊢; exact f h
  · rw [if_neg hc] at h ⊢; exact g h
theorem zckm {c A' A : Prop} [Decidable c] (h : zck c A') (f : A' → A) : zck c A := zck_i (zck_e h).1 (f (zck_e h).2)
theorem zixm {σ : zSh} {t a : Nat} {i : Int} {A' A : Prop} (hk : zkd σ a = t) (h : zck (0 ≤ i ∧ i < zln σ a) A') (f : A' → A) : zix σ t a i A := zck_i hk (zckm h f)
theorem zixm0 {σ : zSh} {t a : Nat} {i : Int} {A' A : Prop} (h : zix σ t a i A') (f : A' → A) : zix σ t a i A := zckm h (fun h => zckm h f)
theorem zar {a : Nat} (h : zkd SH a = 20) : 20 ≤ zkd SH a ∧ zkd SH a < 25 := by omega
/-- a Row, Laws, a Shelf of the shape -/
def zRow (r : Nat) : Prop := zkd SH r = 5 ∧ zrf SH r 0 = some (r + 1) ∧ zkd SH (r + 1) = 20 ∧ zln SH (r + 1) ≤ 100 ∧ 0 ≤ zln SH (r + 1)
def zLaw (r : Nat) : Prop := zkd SH r = 2 ∧ zrf SH r 0 = some (r + 1) ∧ zkd SH (r + 1) = 20 ∧ zrf SH r 1 = some (r + 2) ∧ zkd SH (r + 2) = 20 ∧ zln SH (r + 1) = 6 ∧ zln SH (r + 2) = 6
def zrows : List Nat := [9, 11, 13, 15, 17, 19, 52, 54, 56, 58, 60, 62, 64, 67, 73, 75, 77, 79, 83, 85, 87, 101, 103, 108, 110]
def zlaws : List Nat := [1, 4, 23, 26, 29, 32, 35, 38, 41, 44, 47, 98]
theorem zRow_all : ∀ r ∈ zrows, zkd SH r = 5 ∧ zrf SH r 0 = some (r + 1) ∧ zkd SH (r + 1) = 20 ∧ zln SH (r + 1) ≤ 100 ∧ 0 ≤ zln SH (r + 1) := by decide +kernel
theorem zLaw_all : ∀ r ∈ zlaws, zkd SH r = 2 ∧ zrf SH r 0 = some (r + 1) ∧ zkd SH (r + 1) = 20 ∧ zrf SH r 1 = some (r + 2) ∧ zkd SH (r + 2) = 20 ∧ zln SH (r + 1) = 6 ∧ zln SH (r + 2) = 6 := by decide +kernel
theorem zRow_of {r : Nat} (h : r ∈ zrows) : zRow r := zRow_all r h
theorem zLaw_of {r : Nat} (h : r ∈ zlaws) : zLaw r := zLaw_all r h
def zShf (r : Nat) : Prop := zkd SH r = 6 ∧ zrf SH r 0 = some (r + 1) ∧ zkd SH (r + 1) = 24 ∧ zrf SH r 1 = some (r + 2) ∧ zRow (r + 2) ∧ zln SH (r + 1) = 5 ∧ ∀ k, k < 5 → zrf SH (r + 1) k = some (r + 4 + 2 * k) ∧ zRow (r + 4 + 2 * k) ∧ zln SH (r + 5 + 2 * k) = 14
theorem zShf_7 : zShf 7 := ⟨by decide +kernel, by decide +kernel, by decide +kernel, by decide +kernel, zRow_of (by decide +kernel), by decide +kernel, fun k hk => match k, hk with
  | 0, _ => ⟨by decide +kernel, zRow_of (by decide +kernel), by decide +kernel⟩
  | 1, _ => ⟨by decide +kernel, zRow_of (by decide +kernel), by decide +kernel⟩
  | 2, _ => ⟨by decide +kernel, zRow_of (by decide +kernel), by decide +kernel⟩
  | 3, _ => ⟨by decide +kernel, zRow_of (by decide +kernel), by decide +kernel⟩
  | 4, _ => ⟨by decide +kernel, zRow_of (by decide +kernel), by decide +kernel⟩⟩
theorem zShf_50 : zShf 50 := ⟨by decide +kernel, by decide +kernel, by decide +kernel, by decide +kernel, zRow_of (by decide +kernel), by decide +kernel, fun k hk => match k, hk with
  | 0, _ => ⟨by decide +kernel, zRow_of (by decide +kernel), by decide +kernel⟩
  | 1, _ => ⟨by decide +kernel, zRow_of (by decide +kernel), by decide +kernel⟩
  | 2, _ => ⟨by decide +kernel, zRow_of (by decide +kernel), by decide +kernel⟩
  | 3, _ => ⟨by decide +kernel, zRow_of (by decide +kernel), by decide +kernel⟩
  | 4, _ => ⟨by decide +kernel, zRow_of (by decide +kernel), by decide +kernel⟩⟩
/-- a method that makes no cells -/
theorem zEv_nal {d μ : Nat} {a : List zV} {M L : zM} {Q : Int → zW → Prop} (ls : List zV) (hμ : μ < 225) (h0 : zal μ a = (0, 0)) (hl : zini a ++ List.replicate (zmaxL μ - (zini a).length) zN = ls) (hn : (zini a).length ≤ zmaxL μ) (h : zEx d μ zb0 Q 0 (ls, [], SH, M, L)) : zEv d μ a (SH, M, L) Q := by
  refine zEv_of ls hμ hl hn ?_
  unfold zbd
  rw [h0]
  exact h
