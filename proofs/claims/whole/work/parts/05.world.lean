/-! what the small machine's world is in the heap -/
def zr32 (x : Int) : Prop := -2 ^ 31 ≤ x ∧ x < 2 ^ 31
def zr64 (x : Int) : Prop := -2 ^ 63 ≤ x ∧ x < 2 ^ 63
theorem zr32_of (x : Int32) : zr32 x.toInt := ⟨x.le_toInt, x.toInt_lt⟩
theorem zr64_of (x : Int64) : zr64 x.toInt := ⟨x.le_toInt, x.toInt_lt⟩
theorem zr32_t {x : Int} (h : zr32 x) : (Int32.ofInt x).toInt = x := Int32.toInt_ofInt_of_le h.1 h.2
theorem zr64_t {x : Int} (h : zr64 x) : (Int64.ofInt x).toInt = x := Int64.toInt_ofInt_of_le h.1 h.2
theorem zr32_n {x : Int} (h : zr32 x) : (Int32.ofInt x).toNatClampNeg = x.toNat := by rw [← Int32.toNat_toInt, zr32_t h]
theorem zr32_lt {x y : Int} (hx : zr32 x) (hy : zr32 y) : Int32.ofInt x < Int32.ofInt y ↔ x < y := by rw [Int32.lt_iff_toInt_lt, zr32_t hx, zr32_t hy]
theorem zr32_le {x y : Int} (hx : zr32 x) (hy : zr32 y) : Int32.ofInt x ≤ Int32.ofInt y ↔ x ≤ y := by rw [Int32.le_iff_toInt_le, zr32_t hx, zr32_t hy]
theorem zr32_eq {x y : Int} (hx : zr32 x) (hy : zr32 y) : Int32.ofInt x = Int32.ofInt y ↔ x = y := by rw [← Int32.toInt_inj, zr32_t hx, zr32_t hy]
theorem zr64_lt {x y : Int} (hx : zr64 x) (hy : zr64 y) : Int64.ofInt x < Int64.ofInt y ↔ x < y := by rw [Int64.lt_iff_toInt_lt, zr64_t hx, zr64_t hy]
theorem zr64_eq {x y : Int} (hx : zr64 x) (hy : zr64 y) : Int64.ofInt x = Int64.ofInt y ↔ x = y := by rw [← Int64.toInt_inj, zr64_t hx, zr64_t hy]
theorem zr32_0 : zr32 0 := ⟨by decide, by decide⟩
def zcv (ad : Nat → Nat) (v : zV) : Value := match v with
  | .inl x => .int (Int32.ofInt x)
  | .inr (.inl x) => .long (Int64.ofInt x)
  | .inr (.inr (.inl k)) => .ref (ad k)
  | .inr (.inr (.inr _)) => .null
def zvo (n : Nat) (v : zV) : Prop := match v with
  | .inl x => zr32 x
  | .inr (.inl x) => zr64 x
  | .inr (.inr (.inl k)) => k < n
  | .inr (.inr (.inr _)) => True
def ztys (ca : Nat → ClassId) : List (ClassId × FieldType) := [(ca 20, .int), (ca 21, .boolean), (ca 22, .long), (ca 23, .object RX2), (ca 24, .object RX5)]
def zfv (ad : Nat → Nat) (σ : zSh) (M : zM) (ci k j : Nat) : Value := if zft ci j = 2 then va_rf ((zrf σ k j).map ad) else .int (Int32.ofInt (M k j))
def zce (ca : Nat → ClassId) (ad : Nat → Nat) (w : zW) (k : Nat) : va_E :=
  if zkd w.1 k < 20 then .inr (zkd w.1 k, (List.range (znf (zkd w.1 k))).map (zfv ad w.1 w.2.1 (zkd w.1 k) k))
  else if zkd w.1 k = 22 then .inl (ca 22, (zln w.1 k).toNat, .inr (.inl (fun j => Int64.ofInt (w.2.2 k j))))
  else if zkd w.1 k < 22 then .inl (ca (zkd w.1 k), (zln w.1 k).toNat, .inl (fun j => Int32.ofInt (w.2.1 k j)))
  else .inl (ca (zkd w.1 k), (zln w.1 k).toNat, .inr (.inr (.inr (.inr (fun j => (zrf w.1 k j).map ad)))))
def zws (ca : Nat → ClassId) (ad : Nat → Nat) (w : zW) : va_W := (List.range w.1.length).map (fun k => (ad k, zce ca ad w k))
theorem zws_at {ca : Nat → ClassId} {ad : Nat → Nat} {w : zW} {k : Nat} (h : k < w.1.length) : (zws ca ad w)[k]? = some (ad k, zce ca ad w k) := by
  unfold zws
  rw [List.getElem?_map, List.getElem?_range h]
  rfl
theorem zws_len {ca : Nat → ClassId} {ad : Nat → Nat} {w : zW} : (zws ca ad w).length = w.1.length := by simp [zws]
/-- a cell changes, the others don't -/
theorem zws_set {ca : Nat → ClassId} {ad : Nat → Nat} {w w' : zW} {k : Nat} {x : va_E} (hl : w'.1.length = w.1.length) (ho : ∀ j, j ≠ k → zce ca ad w' j = zce ca ad w j) (hk : zce ca ad w' k = x) : (zws ca ad w).set k (ad k, x) = zws ca ad w' := by
  apply List.ext_getElem?
  intro j
  by_cases hj : j < w.1.length
  · rw [zws_at (w := w') (by omega), List.getElem?_set]
    by_cases hkj : k = j
    · subst hkj
      rw [if_pos rfl, if_pos (by rw [zws_len]; exact hj), hk]
    · rw [if_neg hkj, zws_at hj, ho j (Ne.symm hkj)]
  · rw [List.getElem?_eq_none (by rw [List.length_set, zws_len]; omega), List.getElem?_eq_none (by rw [zws_len]; omega)]
/-- a cell more -/
theorem zws_push {ca : Nat → ClassId} {ad ad' : Nat → Nat} {w w' : zW} {q : Nat} {x : va_E} (hl : w'.1.length = w.1.length + 1) (ho : ∀ j, j < w.1.length → ad' j = ad j ∧ zce ca ad' w' j = zce ca ad w j) (hk : ad' w.1.length = q ∧ zce ca ad' w' w.1.length = x) : zws ca ad w ++ [(q, x)] = zws ca ad' w' := by
  apply List.ext_getElem?
  intro j
  by_cases hj : j < w.1.length
  · rw [zws_at (w := w') (by omega), List.getElem?_append_left (by rw [zws_len]; exact hj), zws_at hj, (ho j hj).1, (ho j hj).2]
  · rw [List.getElem?_append_right (by rw [zws_len]; omega), zws_len]
    by_cases hj2 : j = w.1.length
    · subst hj2
      rw [zws_at (w := w') (by omega), hk.1, hk.2]
      simp
    · rw [List.getElem?_eq_none (by simp; omega), List.getElem?_eq_none (by rw [zws_len]; omega)]
/-- a world in good order: numbers in their ranges, references to cells that are there, lists as long as they must be -/
def zok (w : zW) : Prop := (∀ k j, zr32 (w.2.1 k j)) ∧ (∀ k j, zr64 (w.2.2 k j)) ∧ (∀ k j q, zrf w.1 k j = some q → q < w.1.length) ∧
  ∀ (k : Nat) (e : Nat × Nat × List (Option Nat)), w.1[k]? = some e → (e.1 < 11 ∧ e.2.2.length = znf e.1 ∨ 20 ≤ e.1 ∧ e.1 < 25) ∧ (23 ≤ e.1 → e.2.2.length = e.2.1) ∧ e.2.1 ≤ 20000
theorem zkd_lt {σ : zSh} {k t : Nat} (h : zkd σ k = t) (ht : t < 99) : k < σ.length := by
  unfold zkd at h
  by_cases hk : k < σ.length
  · exact hk
  · rw [List.getElem?_eq_none (by omega)] at h
    have h : 99 = t := h
    omega
theorem zmu_r {P : Int → Prop} {M : zM} {k j : Nat} {v : Int} (h : ∀ k j, P (M k j)) (hv : P v) : ∀ a b, P (zmu M k j v a b) := by
  intro a b
  unfold zmu
  split
  · exact hv
  · exact h a b
theorem zmz_r {P : Int → Prop} {M : zM} {k : Nat} (h : ∀ k j, P (M k j)) (hv : P 0) : ∀ a b, P (zmz M k a b) := by
  intro a b
  unfold zmz
  split
  · exact hv
  · exact h a b
/-! the locals -/
def zlr (ad : Nat → Nat) (nL : Nat) (ls : List zV) (cv : Array Slot) : Prop := cv.size = nL ∧ lv_wf cv ∧ ∀ (j : Nat) (v : zV), ls[j]? = some v → v ≠ zN → cv[j]? = some (.val (zcv ad v))
/-- as the kit has them -/
def zll (ad : Nat → Nat) (ls : List zV) : List (Nat × Value) := (List.range ls.length).filterMap (fun j => match ls.getD j zN with
  | .inr (.inr (.inr _)) => none
  | v => some (j, zcv ad v))
theorem zll_mem {ad : Nat → Nat} {ls : List zV} {q : Nat × Value} : q ∈ zll ad ls ↔ ∃ v, ls[q.1]? = some v ∧ v ≠ zN ∧ q.2 = zcv ad v := by
  unfold zll
  rw [List.mem_filterMap]
  constructor
  · rintro ⟨j, hj, h⟩
    rw [List.mem_range] at hj
    rw [List.getD_eq_getElem?_getD, List.getElem?_eq_getElem hj] at h
    rcases hv : ls[j] with x | x | x | x <;> simp [hv] at h <;> subst h <;> exact ⟨_, by rw [List.getElem?_eq_getElem hj, hv], by simp [zN], rfl⟩
  · rintro ⟨v, h1, h2, h3⟩
    obtain ⟨hj, hv⟩ := List.getElem?_eq_some_iff.mp h1
    refine ⟨q.1, List.mem_range.mpr hj, ?_⟩
    rw [List.getD_eq_getElem?_getD, h1]
    obtain ⟨j, y⟩ := q
    simp only at h3
    subst h3
    rcases v with x | x | x | x
    · rfl
    · rfl
    · rfl
    · exact absurd rfl h2
theorem zlr_has {ad : Nat → Nat} {nL : Nat} {ls : List zV} {cv : Array Slot} : zlr ad nL ls cv ↔ lv_has cv nL (zll ad ls) := by
  unfold zlr lv_has
  constructor
  · rintro ⟨h1, h2, h3⟩
    refine ⟨h1, h2, fun q hq => ?_⟩
    obtain ⟨v, a, b, c⟩ := zll_mem.mp hq
    rw [c]; exact h3 _ _ a b
  · rintro ⟨h1, h2, h3⟩
    refine ⟨h1, h2, fun j v a b => ?_⟩
    exact h3 (j, zcv ad v) (zll_mem.mpr ⟨v, a, b, rfl⟩)
theorem zlr_at {ad : Nat → Nat} {nL i : Nat} {ls : List zV} {cv : Array Slot} {v : zV} (h : zlr ad nL ls cv) (hv : ls.getD i zN = v) (hn : v ≠ zN) : cv[i]? = some (.val (zcv ad v)) := by
  refine h.2.2 i v ?_ hn
  rw [List.getD_eq_getElem?_getD] at hv
  cases hi : ls[i]? with
  | none => rw [hi] at hv; exact absurd hv.symm hn
  | some u => rw [hi] at hv; simp at hv; rw [hv]
theorem zset_at (v : zV) : ∀ (ls : List zV) (i j : Nat), (zset ls i v)[j]? = if j = i then (if i < ls.length then some v else none) else if j + 1 = i then (ls[j]?).map znol else ls[j]?
  | [], i, j => by simp [zset]
  | a :: l, 0, j => by
    cases j with
    | zero => simp [zset]
    | succ j => simp [zset]
  | a :: l, 1, j => by
    cases j with
    | zero => simp [zset]
    | succ j =>
      have h := zset_at v l 0 j
      simp only [zset, List.getElem?_cons_succ, h]
      by_cases hj : j = 0
      · subst hj; simp
      · simp [hj]
  | a :: l, n + 2, j => by
    cases j with
    | zero => simp [zset]
    | succ j =>
      have h := zset_at v l (n + 1) j
      simp only [zset, List.getElem?_cons_succ, h]
      by_cases hj : j = n + 1
      · subst hj
        rw [if_pos rfl, if_pos rfl]
        by_cases hl : n + 1 < l.length
        · rw [if_pos hl, if_pos (by simp; omega)]
        · rw [if_neg hl, if_neg (by simp; omega)]
      · by_cases hj2 : j = n
        · subst hj2; simp
        · have e1 : ¬ j + 1 = n + 2 := by omega
          have e2 : ¬ j + 1 = n + 1 := by omega
          have e3 : ¬ j + 1 + 1 = n + 2 := by omega
          simp [hj, e1, e2]
theorem znol_ne {v : zV} (h : znol v ≠ zN) : znol v = v := by
  rcases v with x | x | x | x <;> simp [znol] at h ⊢
theorem znol_cat {ad : Nat → Nat} {v : zV} (h : znol v ≠ zN) : ¬ (zcv ad v).category = 2 := by
  rcases v with x | x | x | x <;> simp [znol, zcv, Value.category] at h ⊢
theorem zset_len (v : zV) : ∀ (ls : List zV) (i : Nat), (zset ls i v).length = ls.length
  | [], _ => rfl
  | _ :: _, 0 => rfl
  | _ :: l, 1 => by simp [zset, zset_len v l 0]
  | _ :: l, n + 2 => by simp [zset, zset_len v l (n + 1)]
theorem zset_mem {P : zV → Prop} {v : zV} {ls : List zV} {i : Nat} (h : ∀ u ∈ ls, P u) (hv : P v) (hN : P zN) : ∀ u ∈ zset ls i v, P u := by
  intro u hu
  obtain ⟨j, hj⟩ := List.getElem?_of_mem hu
  rw [zset_at] at hj
  split at hj
  · split at hj
    · cases hj; exact hv
    · cases hj
  · split at hj
    · cases hl : ls[j]? with
      | none => rw [hl] at hj; cases hj
      | some a =>
        rw [hl] at hj
        cases hj
        have ha := h a (List.mem_of_getElem? hl)
        rcases a with x | x | x | x
        · exact ha
        · exact hN
        · exact ha
        · exact ha
    · exact h u (List.mem_of_getElem? hj)
/-- behind a store of one slot -/
theorem zlr_set1 {ad : Nat → Nat} {nL i : Nat} {ls : List zV} {cv : Array Slot} {v : zV} (h : lv_has cv nL ((i, zcv ad v) :: (zll ad ls).filter (fun q => !(q.1 == i) && !(q.1 + 1 == i && q.2.category == 2)))) : zlr ad nL (zset ls i v) cv := by
  refine ⟨h.1, h.2.1, fun j u hj hn => ?_⟩
  rw [zset_at] at hj
  split at hj
  · next hji =>
    subst hji
    split at hj
    · cases hj; exact h.2.2 _ List.mem_cons_self
    · cases hj
  · next hji =>
    refine h.2.2 (j, zcv ad u) (List.mem_cons_of_mem _ (List.mem_filter.mpr ?_))
    split at hj
    · next hj1 =>
      cases hl : ls[j]? with
      | none => rw [hl] at hj; cases hj
      | some a =>
        rw [hl] at hj
        cases hj
        have e := znol_ne hn
        refine ⟨zll_mem.mpr ⟨a, hl, by rw [← e]; exact hn, by rw [e]⟩, ?_⟩
        have hc := znol_cat (ad := ad) hn
        rw [e]
        simp [hji, hc]
    · next hj1 =>
      exact ⟨zll_mem.mpr ⟨u, hj, hn, rfl⟩, by simp [hji, hj1]⟩
theorem zlr_set2 {ad : Nat → Nat} {nL i : Nat} {ls : List zV} {cv : Array Slot} {v : zV} (h : lv_has cv nL ((i, zcv ad v) :: (zll ad ls).filter (fun q => !(q.1 == i) && (!(q.1 == i + 1) && !(q.1 + 1 == i && q.2.category == 2))))) : zlr ad nL (zset2 ls i v) cv := by
  refine ⟨h.1, h.2.1, fun j u hj hn => ?_⟩
  unfold zset2 at hj
  rw [List.getElem?_set] at hj
  split at hj
  · split at hj
    · cases hj; exact absurd rfl hn
    · cases hj
  · next hi1 =>
    rw [zset_at] at hj
    split at hj
    · next hji =>
      subst hji
      split at hj
      · cases hj; exact h.2.2 _ List.mem_cons_self
      · cases hj
    · next hji =>
      refine h.2.2 (j, zcv ad u) (List.mem_cons_of_mem _ (List.mem_filter.mpr ?_))
      have hi2 : ¬ j = i + 1 := fun q => hi1 q.symm
      split at hj
      · next hj1 =>
        cases hl : ls[j]? with
        | none => rw [hl] at hj; cases hj
        | some a =>
          rw [hl] at hj
          cases hj
          have e := znol_ne hn
          refine ⟨zll_mem.mpr ⟨a, hl, by rw [← e]; exact hn, by rw [e]⟩, ?_⟩
          have hc := znol_cat (ad := ad) hn
          rw [e]
          simp [hji, hi2, hc]
      · next hj1 =>
        exact ⟨zll_mem.mpr ⟨u, hj, hn, rfl⟩, by simp [hji, hi2, hj1]⟩
theorem zset2_mem {P : zV → Prop} {v : zV} {ls : List zV} {i : Nat} (h : ∀ u ∈ ls, P u) (hv : P v) (hN : P zN) : ∀ u ∈ zset2 ls i v, P u := by
  intro u hu
  rcases List.mem_or_eq_of_mem_set hu with h1 | h1
  · exact zset_mem h hv hN u h1
  · rw [h1]; exact hN
