/-! the shape of the heap behind the constructors: which cells there are, and what refers to what; no call changes it -/
def SH : zSh := [(9, 0, [some 1, some 4, some 7, some 21, some 47, some 50, none, some 64, some 66, some 70, some 81, some 82, some 89, some 97, some 108, some 110]),
  (2, 0, [some 2, some 3]),
  (20, 6, []),
  (20, 6, []),
  (2, 0, [some 5, some 6]),
  (20, 6, []),
  (20, 6, []),
  (6, 0, [some 8, some 9, none]),
  (24, 5, [some 11, some 13, some 15, some 17, some 19]),
  (5, 0, [some 10, none]),
  (20, 0, []),
  (5, 0, [some 12, none]),
  (20, 14, []),
  (5, 0, [some 14, none]),
  (20, 14, []),
  (5, 0, [some 16, none]),
  (20, 14, []),
  (5, 0, [some 18, none]),
  (20, 14, []),
  (5, 0, [some 20, none]),
  (20, 14, []),
  (1, 0, [some 22, none, none]),
  (23, 8, [some 23, some 26, some 29, some 32, some 35, some 38, some 41, some 44]),
  (2, 0, [some 24, some 25]),
  (20, 6, []),
  (20, 6, []),
  (2, 0, [some 27, some 28]),
  (20, 6, []),
  (20, 6, []),
  (2, 0, [some 30, some 31]),
  (20, 6, []),
  (20, 6, []),
  (2, 0, [some 33, some 34]),
  (20, 6, []),
  (20, 6, []),
  (2, 0, [some 36, some 37]),
  (20, 6, []),
  (20, 6, []),
  (2, 0, [some 39, some 40]),
  (20, 6, []),
  (20, 6, []),
  (2, 0, [some 42, some 43]),
  (20, 6, []),
  (20, 6, []),
  (2, 0, [some 45, some 46]),
  (20, 6, []),
  (20, 6, []),
  (2, 0, [some 48, some 49]),
  (20, 6, []),
  (20, 6, []),
  (6, 0, [some 51, some 52, none]),
  (24, 5, [some 54, some 56, some 58, some 60, some 62]),
  (5, 0, [some 53, none]),
  (20, 0, []),
  (5, 0, [some 55, none]),
  (20, 14, []),
  (5, 0, [some 57, none]),
  (20, 14, []),
  (5, 0, [some 59, none]),
  (20, 14, []),
  (5, 0, [some 61, none]),
  (20, 14, []),
  (5, 0, [some 63, none]),
  (20, 14, []),
  (5, 0, [some 65, none]),
  (20, 72, []),
  (4, 0, [some 67, some 69, none, none]),
  (5, 0, [some 68, none]),
  (20, 15, []),
  (20, 5, []),
  (3, 0, [some 71, some 72, some 73]),
  (24, 3, [some 75, some 77, some 79]),
  (21, 3, []),
  (5, 0, [some 74, none]),
  (20, 0, []),
  (5, 0, [some 76, none]),
  (20, 40, []),
  (5, 0, [some 78, none]),
  (20, 40, []),
  (5, 0, [some 80, none]),
  (20, 40, []),
  (20, 6, []),
  (0, 0, [some 1, some 83, some 85, some 87]),
  (5, 0, [some 84, none]),
  (20, 28, []),
  (5, 0, [some 86, none]),
  (20, 28, []),
  (5, 0, [some 88, none]),
  (20, 28, []),
  (7, 0, [some 90, some 91, some 92, some 93, some 94, some 95, some 96]),
  (22, 1296, []),
  (20, 1296, []),
  (20, 6, []),
  (20, 6, []),
  (20, 14, []),
  (20, 7, []),
  (22, 13, []),
  (8, 0, [some 1, some 82, some 98, some 101, some 103, some 105, some 106, some 107, none, none]),
  (2, 0, [some 99, some 100]),
  (20, 6, []),
  (20, 6, []),
  (5, 0, [some 102, none]),
  (20, 7, []),
  (5, 0, [some 104, none]),
  (20, 7, []),
  (20, 64, []),
  (20, 64, []),
  (20, 64, []),
  (5, 0, [some 109, none]),
  (20, 28, []),
  (5, 0, [some 111, none]),
  (20, 28, []),
  (10, 0, [some 113, some 114, none, some 115, some 116, some 117, some 118, none, none, some 119, none, none, some 120, some 121, some 122, some 123, some 124, some 125, none, none, some 126, none, some 127, some 128, some 129, some 130, some 131, some 132, some 133, some 134, some 135, some 136, some 137, none, some 138, some 139]),
  (20, 6, []),
  (20, 6, []),
  (20, 5, []),
  (20, 70, []),
  (20, 7, []),
  (20, 72, []),
  (20, 96, []),
  (20, 6, []),
  (20, 6, []),
  (20, 5, []),
  (20, 70, []),
  (20, 3, []),
  (20, 120, []),
  (20, 216, []),
  (20, 14, []),
  (20, 28, []),
  (20, 28, []),
  (20, 28, []),
  (20, 28, []),
  (20, 28, []),
  (20, 14, []),
  (20, 14, []),
  (22, 16384, []),
  (20, 14, []),
  (20, 6, []),
  (20, 5040, []),
  (20, 5040, [])]
def zb0 : zB := (SH.length, zsz SH, 0, 0)
theorem zom_i {o : Option Nat} {k : Nat → Prop} {q : Nat} (h : o = some q) (hk : k q) : zom o k := by subst h; exact hk
theorem zomm {o : Option Nat} {k' k : Nat → Prop} (h : zom o k') (f : ∀ q, k' q → k q) : zom o k := by
  cases o with
  | none => exact h
  | some q => exact f q h
theorem zit {c A' B' A B : Prop} [Decidable c] (h : if c then A' else B') (f : A' → A) (g : B' → B) : if c then A else B := by
  by_cases hc : c
  · rw [if_pos hc] at h ⊢; exact f h
  · rw [if_neg hc] at h ⊢; exact g h
theorem zckm {c A' A : Prop} [Decidable c] (h : zck c A') (f : A' → A) : zck c A := zck_i (zck_e h).1 (f (zck_e h).2)
theorem zkqm {a b : Nat} {A' A : Prop} (h : zkq a b A') (f : A' → A) : zkq a b A := zkq_i (zkq_e h).1 (f (zkq_e h).2)
theorem zixm {σ : zSh} {t a : Nat} {i : Int} {A' A : Prop} (hk : zkd σ a = t) (h : zck (0 ≤ i ∧ i < zln σ a) A') (f : A' → A) : zix σ t a i A := zkq_i hk (zckm h f)
theorem zixm0 {σ : zSh} {t a : Nat} {i : Int} {A' A : Prop} (h : zix σ t a i A') (f : A' → A) : zix σ t a i A := zkqm h (fun h => zckm h f)
theorem zar {a : Nat} {k : Prop} (h : zkd SH a = 20) (hk : k) : zkb (Nat.ble 20 (zkd SH a) && Nat.ble (zkd SH a) 24) k := by rw [h]; exact hk
/-- a Row, Laws, a Shelf of the shape -/
def zRow (r : Nat) : Prop := zkd SH r = 5 ∧ zrf SH r 0 = some (r + 1) ∧ zkd SH (r + 1) = 20 ∧ zln SH (r + 1) ≤ 100 ∧ 0 ≤ zln SH (r + 1)
def zLaw (r : Nat) : Prop := zkd SH r = 2 ∧ zrf SH r 0 = some (r + 1) ∧ zkd SH (r + 1) = 20 ∧ zrf SH r 1 = some (r + 2) ∧ zkd SH (r + 2) = 20 ∧ zln SH (r + 1) = 6 ∧ zln SH (r + 2) = 6
def zrows : List Nat := [9, 11, 13, 15, 17, 19, 52, 54, 56, 58, 60, 62, 64, 67, 73, 75, 77, 79, 83, 85, 87, 101, 103, 108, 110]
def zlaws : List Nat := [1, 4, 23, 26, 29, 32, 35, 38, 41, 44, 47, 98]
theorem zRow_all : ∀ r ∈ zrows, zkd SH r = 5 ∧ zrf SH r 0 = some (r + 1) ∧ zkd SH (r + 1) = 20 ∧ zln SH (r + 1) ≤ 100 ∧ 0 ≤ zln SH (r + 1) := by decide +kernel
theorem zLaw_all : ∀ r ∈ zlaws, zkd SH r = 2 ∧ zrf SH r 0 = some (r + 1) ∧ zkd SH (r + 1) = 20 ∧ zrf SH r 1 = some (r + 2) ∧ zkd SH (r + 2) = 20 ∧ zln SH (r + 1) = 6 ∧ zln SH (r + 2) = 6 := by decide +kernel
theorem zRow_of {r : Nat} (h : r ∈ zrows) : zRow r := zRow_all r h
theorem zLaw_of {r : Nat} (h : r ∈ zlaws) : zLaw r := zLaw_all r h
def zShf (r : Nat) : Prop := zkd SH r = 6 ∧ zrf SH r 0 = some (r + 1) ∧ zkd SH (r + 1) = 24 ∧ zrf SH r 1 = some (r + 2) ∧ zRow (r + 2) ∧ zln SH (r + 1) = 5 ∧ ∀ k, k < 5 → zrf SH (r + 1) k = some (r + 4 + 2 * k) ∧ zRow (r + 4 + 2 * k) ∧ zln SH (r + 5 + 2 * k) = 14
theorem zShf_7 : zShf 7 := ⟨by decide +kernel, by decide +kernel, by decide +kernel, by decide +kernel, zRow_of (by decide +kernel), by decide +kernel, fun k hk => match k, hk with
  | 0, _ => ⟨by decide +kernel, zRow_of (by decide +kernel), by decide +kernel⟩
  | 1, _ => ⟨by decide +kernel, zRow_of (by decide +kernel), by decide +kernel⟩
  | 2, _ => ⟨by decide +kernel, zRow_of (by decide +kernel), by decide +kernel⟩
  | 3, _ => ⟨by decide +kernel, zRow_of (by decide +kernel), by decide +kernel⟩
  | 4, _ => ⟨by decide +kernel, zRow_of (by decide +kernel), by decide +kernel⟩⟩
theorem zShf_50 : zShf 50 := ⟨by decide +kernel, by decide +kernel, by decide +kernel, by decide +kernel, zRow_of (by decide +kernel), by decide +kernel, fun k hk => match k, hk with
  | 0, _ => ⟨by decide +kernel, zRow_of (by decide +kernel), by decide +kernel⟩
  | 1, _ => ⟨by decide +kernel, zRow_of (by decide +kernel), by decide +kernel⟩
  | 2, _ => ⟨by decide +kernel, zRow_of (by decide +kernel), by decide +kernel⟩
  | 3, _ => ⟨by decide +kernel, zRow_of (by decide +kernel), by decide +kernel⟩
  | 4, _ => ⟨by decide +kernel, zRow_of (by decide +kernel), by decide +kernel⟩⟩
/-- a method that makes no cells -/
theorem zEv_nal {d μ : Nat} {a : List zV} {M L : zM} {Q : Int → zW → Prop} (ls : List zV) (hμ : μ < 225) (h0 : zal μ a = (0, 0)) (hl : zini a ++ List.replicate (zmaxL μ - (zini a).length) zN = ls) (hn : (zini a).length ≤ zmaxL μ) (h : zEx d μ zb0 Q 0 (ls, [], SH, M, L)) : zEv d μ a (SH, M, L) Q := by
  refine zEv_of ls hμ hl hn ?_
  unfold zbd
  rw [h0]
  exact h
theorem zk_0 : zkd SH 0 = 9 := by decide +kernel
theorem zk_1 : zkd SH 1 = 2 := by decide +kernel
theorem zk_2 : zkd SH 2 = 20 := by decide +kernel
theorem zl_2 : zln SH 2 = 6 := by decide +kernel
theorem zk_3 : zkd SH 3 = 20 := by decide +kernel
theorem zl_3 : zln SH 3 = 6 := by decide +kernel
theorem zk_4 : zkd SH 4 = 2 := by decide +kernel
theorem zk_5 : zkd SH 5 = 20 := by decide +kernel
theorem zl_5 : zln SH 5 = 6 := by decide +kernel
theorem zk_6 : zkd SH 6 = 20 := by decide +kernel
theorem zl_6 : zln SH 6 = 6 := by decide +kernel
theorem zk_7 : zkd SH 7 = 6 := by decide +kernel
theorem zk_8 : zkd SH 8 = 24 := by decide +kernel
theorem zl_8 : zln SH 8 = 5 := by decide +kernel
theorem zk_9 : zkd SH 9 = 5 := by decide +kernel
theorem zk_10 : zkd SH 10 = 20 := by decide +kernel
theorem zl_10 : zln SH 10 = 0 := by decide +kernel
theorem zk_11 : zkd SH 11 = 5 := by decide +kernel
theorem zk_12 : zkd SH 12 = 20 := by decide +kernel
theorem zl_12 : zln SH 12 = 14 := by decide +kernel
theorem zk_13 : zkd SH 13 = 5 := by decide +kernel
theorem zk_14 : zkd SH 14 = 20 := by decide +kernel
theorem zl_14 : zln SH 14 = 14 := by decide +kernel
theorem zk_15 : zkd SH 15 = 5 := by decide +kernel
theorem zk_16 : zkd SH 16 = 20 := by decide +kernel
theorem zl_16 : zln SH 16 = 14 := by decide +kernel
theorem zk_17 : zkd SH 17 = 5 := by decide +kernel
theorem zk_18 : zkd SH 18 = 20 := by decide +kernel
theorem zl_18 : zln SH 18 = 14 := by decide +kernel
theorem zk_19 : zkd SH 19 = 5 := by decide +kernel
theorem zk_20 : zkd SH 20 = 20 := by decide +kernel
theorem zl_20 : zln SH 20 = 14 := by decide +kernel
theorem zk_21 : zkd SH 21 = 1 := by decide +kernel
theorem zk_22 : zkd SH 22 = 23 := by decide +kernel
theorem zl_22 : zln SH 22 = 8 := by decide +kernel
theorem zk_23 : zkd SH 23 = 2 := by decide +kernel
theorem zk_24 : zkd SH 24 = 20 := by decide +kernel
theorem zl_24 : zln SH 24 = 6 := by decide +kernel
theorem zk_25 : zkd SH 25 = 20 := by decide +kernel
theorem zl_25 : zln SH 25 = 6 := by decide +kernel
theorem zk_26 : zkd SH 26 = 2 := by decide +kernel
theorem zk_27 : zkd SH 27 = 20 := by decide +kernel
theorem zl_27 : zln SH 27 = 6 := by decide +kernel
theorem zk_28 : zkd SH 28 = 20 := by decide +kernel
theorem zl_28 : zln SH 28 = 6 := by decide +kernel
theorem zk_29 : zkd SH 29 = 2 := by decide +kernel
theorem zk_30 : zkd SH 30 = 20 := by decide +kernel
theorem zl_30 : zln SH 30 = 6 := by decide +kernel
theorem zk_31 : zkd SH 31 = 20 := by decide +kernel
theorem zl_31 : zln SH 31 = 6 := by decide +kernel
theorem zk_32 : zkd SH 32 = 2 := by decide +kernel
theorem zk_33 : zkd SH 33 = 20 := by decide +kernel
theorem zl_33 : zln SH 33 = 6 := by decide +kernel
theorem zk_34 : zkd SH 34 = 20 := by decide +kernel
theorem zl_34 : zln SH 34 = 6 := by decide +kernel
theorem zk_35 : zkd SH 35 = 2 := by decide +kernel
theorem zk_36 : zkd SH 36 = 20 := by decide +kernel
theorem zl_36 : zln SH 36 = 6 := by decide +kernel
theorem zk_37 : zkd SH 37 = 20 := by decide +kernel
theorem zl_37 : zln SH 37 = 6 := by decide +kernel
theorem zk_38 : zkd SH 38 = 2 := by decide +kernel
theorem zk_39 : zkd SH 39 = 20 := by decide +kernel
theorem zl_39 : zln SH 39 = 6 := by decide +kernel
theorem zk_40 : zkd SH 40 = 20 := by decide +kernel
theorem zl_40 : zln SH 40 = 6 := by decide +kernel
theorem zk_41 : zkd SH 41 = 2 := by decide +kernel
theorem zk_42 : zkd SH 42 = 20 := by decide +kernel
theorem zl_42 : zln SH 42 = 6 := by decide +kernel
theorem zk_43 : zkd SH 43 = 20 := by decide +kernel
theorem zl_43 : zln SH 43 = 6 := by decide +kernel
theorem zk_44 : zkd SH 44 = 2 := by decide +kernel
theorem zk_45 : zkd SH 45 = 20 := by decide +kernel
theorem zl_45 : zln SH 45 = 6 := by decide +kernel
theorem zk_46 : zkd SH 46 = 20 := by decide +kernel
theorem zl_46 : zln SH 46 = 6 := by decide +kernel
theorem zk_47 : zkd SH 47 = 2 := by decide +kernel
theorem zk_48 : zkd SH 48 = 20 := by decide +kernel
theorem zl_48 : zln SH 48 = 6 := by decide +kernel
theorem zk_49 : zkd SH 49 = 20 := by decide +kernel
theorem zl_49 : zln SH 49 = 6 := by decide +kernel
theorem zk_50 : zkd SH 50 = 6 := by decide +kernel
theorem zk_51 : zkd SH 51 = 24 := by decide +kernel
theorem zl_51 : zln SH 51 = 5 := by decide +kernel
theorem zk_52 : zkd SH 52 = 5 := by decide +kernel
theorem zk_53 : zkd SH 53 = 20 := by decide +kernel
theorem zl_53 : zln SH 53 = 0 := by decide +kernel
theorem zk_54 : zkd SH 54 = 5 := by decide +kernel
theorem zk_55 : zkd SH 55 = 20 := by decide +kernel
theorem zl_55 : zln SH 55 = 14 := by decide +kernel
theorem zk_56 : zkd SH 56 = 5 := by decide +kernel
theorem zk_57 : zkd SH 57 = 20 := by decide +kernel
theorem zl_57 : zln SH 57 = 14 := by decide +kernel
theorem zk_58 : zkd SH 58 = 5 := by decide +kernel
theorem zk_59 : zkd SH 59 = 20 := by decide +kernel
theorem zl_59 : zln SH 59 = 14 := by decide +kernel
theorem zk_60 : zkd SH 60 = 5 := by decide +kernel
theorem zk_61 : zkd SH 61 = 20 := by decide +kernel
theorem zl_61 : zln SH 61 = 14 := by decide +kernel
theorem zk_62 : zkd SH 62 = 5 := by decide +kernel
theorem zk_63 : zkd SH 63 = 20 := by decide +kernel
theorem zl_63 : zln SH 63 = 14 := by decide +kernel
theorem zk_64 : zkd SH 64 = 5 := by decide +kernel
theorem zk_65 : zkd SH 65 = 20 := by decide +kernel
theorem zl_65 : zln SH 65 = 72 := by decide +kernel
theorem zk_66 : zkd SH 66 = 4 := by decide +kernel
theorem zk_67 : zkd SH 67 = 5 := by decide +kernel
theorem zk_68 : zkd SH 68 = 20 := by decide +kernel
theorem zl_68 : zln SH 68 = 15 := by decide +kernel
theorem zk_69 : zkd SH 69 = 20 := by decide +kernel
theorem zl_69 : zln SH 69 = 5 := by decide +kernel
theorem zk_70 : zkd SH 70 = 3 := by decide +kernel
theorem zk_71 : zkd SH 71 = 24 := by decide +kernel
theorem zl_71 : zln SH 71 = 3 := by decide +kernel
theorem zk_72 : zkd SH 72 = 21 := by decide +kernel
theorem zl_72 : zln SH 72 = 3 := by decide +kernel
theorem zk_73 : zkd SH 73 = 5 := by decide +kernel
theorem zk_74 : zkd SH 74 = 20 := by decide +kernel
theorem zl_74 : zln SH 74 = 0 := by decide +kernel
theorem zk_75 : zkd SH 75 = 5 := by decide +kernel
theorem zk_76 : zkd SH 76 = 20 := by decide +kernel
theorem zl_76 : zln SH 76 = 40 := by decide +kernel
theorem zk_77 : zkd SH 77 = 5 := by decide +kernel
theorem zk_78 : zkd SH 78 = 20 := by decide +kernel
theorem zl_78 : zln SH 78 = 40 := by decide +kernel
theorem zk_79 : zkd SH 79 = 5 := by decide +kernel
theorem zk_80 : zkd SH 80 = 20 := by decide +kernel
theorem zl_80 : zln SH 80 = 40 := by decide +kernel
theorem zk_81 : zkd SH 81 = 20 := by decide +kernel
theorem zl_81 : zln SH 81 = 6 := by decide +kernel
theorem zk_82 : zkd SH 82 = 0 := by decide +kernel
theorem zk_83 : zkd SH 83 = 5 := by decide +kernel
theorem zk_84 : zkd SH 84 = 20 := by decide +kernel
theorem zl_84 : zln SH 84 = 28 := by decide +kernel
theorem zk_85 : zkd SH 85 = 5 := by decide +kernel
theorem zk_86 : zkd SH 86 = 20 := by decide +kernel
theorem zl_86 : zln SH 86 = 28 := by decide +kernel
theorem zk_87 : zkd SH 87 = 5 := by decide +kernel
theorem zk_88 : zkd SH 88 = 20 := by decide +kernel
theorem zl_88 : zln SH 88 = 28 := by decide +kernel
theorem zk_89 : zkd SH 89 = 7 := by decide +kernel
theorem zk_90 : zkd SH 90 = 22 := by decide +kernel
theorem zl_90 : zln SH 90 = 1296 := by decide +kernel
theorem zk_91 : zkd SH 91 = 20 := by decide +kernel
theorem zl_91 : zln SH 91 = 1296 := by decide +kernel
theorem zk_92 : zkd SH 92 = 20 := by decide +kernel
theorem zl_92 : zln SH 92 = 6 := by decide +kernel
theorem zk_93 : zkd SH 93 = 20 := by decide +kernel
theorem zl_93 : zln SH 93 = 6 := by decide +kernel
theorem zk_94 : zkd SH 94 = 20 := by decide +kernel
theorem zl_94 : zln SH 94 = 14 := by decide +kernel
theorem zk_95 : zkd SH 95 = 20 := by decide +kernel
theorem zl_95 : zln SH 95 = 7 := by decide +kernel
theorem zk_96 : zkd SH 96 = 22 := by decide +kernel
theorem zl_96 : zln SH 96 = 13 := by decide +kernel
theorem zk_97 : zkd SH 97 = 8 := by decide +kernel
theorem zk_98 : zkd SH 98 = 2 := by decide +kernel
theorem zk_99 : zkd SH 99 = 20 := by decide +kernel
theorem zl_99 : zln SH 99 = 6 := by decide +kernel
theorem zk_100 : zkd SH 100 = 20 := by decide +kernel
theorem zl_100 : zln SH 100 = 6 := by decide +kernel
theorem zk_101 : zkd SH 101 = 5 := by decide +kernel
theorem zk_102 : zkd SH 102 = 20 := by decide +kernel
theorem zl_102 : zln SH 102 = 7 := by decide +kernel
theorem zk_103 : zkd SH 103 = 5 := by decide +kernel
theorem zk_104 : zkd SH 104 = 20 := by decide +kernel
theorem zl_104 : zln SH 104 = 7 := by decide +kernel
theorem zk_105 : zkd SH 105 = 20 := by decide +kernel
theorem zl_105 : zln SH 105 = 64 := by decide +kernel
theorem zk_106 : zkd SH 106 = 20 := by decide +kernel
theorem zl_106 : zln SH 106 = 64 := by decide +kernel
theorem zk_107 : zkd SH 107 = 20 := by decide +kernel
theorem zl_107 : zln SH 107 = 64 := by decide +kernel
theorem zk_108 : zkd SH 108 = 5 := by decide +kernel
theorem zk_109 : zkd SH 109 = 20 := by decide +kernel
theorem zl_109 : zln SH 109 = 28 := by decide +kernel
theorem zk_110 : zkd SH 110 = 5 := by decide +kernel
theorem zk_111 : zkd SH 111 = 20 := by decide +kernel
theorem zl_111 : zln SH 111 = 28 := by decide +kernel
theorem zk_112 : zkd SH 112 = 10 := by decide +kernel
theorem zk_113 : zkd SH 113 = 20 := by decide +kernel
theorem zl_113 : zln SH 113 = 6 := by decide +kernel
theorem zk_114 : zkd SH 114 = 20 := by decide +kernel
theorem zl_114 : zln SH 114 = 6 := by decide +kernel
theorem zk_115 : zkd SH 115 = 20 := by decide +kernel
theorem zl_115 : zln SH 115 = 5 := by decide +kernel
theorem zk_116 : zkd SH 116 = 20 := by decide +kernel
theorem zl_116 : zln SH 116 = 70 := by decide +kernel
theorem zk_117 : zkd SH 117 = 20 := by decide +kernel
theorem zl_117 : zln SH 117 = 7 := by decide +kernel
theorem zk_118 : zkd SH 118 = 20 := by decide +kernel
theorem zl_118 : zln SH 118 = 72 := by decide +kernel
theorem zk_119 : zkd SH 119 = 20 := by decide +kernel
theorem zl_119 : zln SH 119 = 96 := by decide +kernel
theorem zk_120 : zkd SH 120 = 20 := by decide +kernel
theorem zl_120 : zln SH 120 = 6 := by decide +kernel
theorem zk_121 : zkd SH 121 = 20 := by decide +kernel
theorem zl_121 : zln SH 121 = 6 := by decide +kernel
theorem zk_122 : zkd SH 122 = 20 := by decide +kernel
theorem zl_122 : zln SH 122 = 5 := by decide +kernel
theorem zk_123 : zkd SH 123 = 20 := by decide +kernel
theorem zl_123 : zln SH 123 = 70 := by decide +kernel
theorem zk_124 : zkd SH 124 = 20 := by decide +kernel
theorem zl_124 : zln SH 124 = 3 := by decide +kernel
theorem zk_125 : zkd SH 125 = 20 := by decide +kernel
theorem zl_125 : zln SH 125 = 120 := by decide +kernel
theorem zk_126 : zkd SH 126 = 20 := by decide +kernel
theorem zl_126 : zln SH 126 = 216 := by decide +kernel
theorem zk_127 : zkd SH 127 = 20 := by decide +kernel
theorem zl_127 : zln SH 127 = 14 := by decide +kernel
theorem zk_128 : zkd SH 128 = 20 := by decide +kernel
theorem zl_128 : zln SH 128 = 28 := by decide +kernel
theorem zk_129 : zkd SH 129 = 20 := by decide +kernel
theorem zl_129 : zln SH 129 = 28 := by decide +kernel
theorem zk_130 : zkd SH 130 = 20 := by decide +kernel
theorem zl_130 : zln SH 130 = 28 := by decide +kernel
theorem zk_131 : zkd SH 131 = 20 := by decide +kernel
theorem zl_131 : zln SH 131 = 28 := by decide +kernel
theorem zk_132 : zkd SH 132 = 20 := by decide +kernel
theorem zl_132 : zln SH 132 = 28 := by decide +kernel
theorem zk_133 : zkd SH 133 = 20 := by decide +kernel
theorem zl_133 : zln SH 133 = 14 := by decide +kernel
theorem zk_134 : zkd SH 134 = 20 := by decide +kernel
theorem zl_134 : zln SH 134 = 14 := by decide +kernel
theorem zk_135 : zkd SH 135 = 22 := by decide +kernel
theorem zl_135 : zln SH 135 = 16384 := by decide +kernel
theorem zk_136 : zkd SH 136 = 20 := by decide +kernel
theorem zl_136 : zln SH 136 = 14 := by decide +kernel
theorem zk_137 : zkd SH 137 = 20 := by decide +kernel
theorem zl_137 : zln SH 137 = 6 := by decide +kernel
theorem zk_138 : zkd SH 138 = 20 := by decide +kernel
theorem zl_138 : zln SH 138 = 5040 := by decide +kernel
theorem zk_139 : zkd SH 139 = 20 := by decide +kernel
theorem zl_139 : zln SH 139 = 5040 := by decide +kernel
