/-! all words to which moves lead: the search -/
section SE
variable {P R : Nat → Nat} {u y : List Int} {bf bf' : List (List Int × Nat)} {k m : Nat}
abbrev bw (bf : List (List Int × Nat)) (k : Nat) : List Int := (bf.getD k zbf0).1
abbrev bm (bf : List (List Int × Nat)) (k : Nat) : Nat := (bf.getD k zbf0).2
def bfI (P R : Nat → Nat) (u : List Int) (bf : List (List Int × Nat)) (k : Nat) : Prop := (∀ p ∈ bf, rch P R u p.2 p.1) ∧ (bf.map (fun p => p.1)).Nodup ∧ (0 < bf.length ∧ bf.getD 0 zbf0 = (u, 0)) ∧ bf.Pairwise (fun p q => p.2 ≤ q.2) ∧ (k < bf.length → ∀ p ∈ bf, p.2 ≤ bm bf k + 1) ∧ ∀ i, i < k → i < bf.length → ∀ y, mv P R (bw bf i) y → ∃ m, (y, m) ∈ bf ∧ m ≤ bm bf i + 1
theorem getD_mem {α : Type} {l : List α} {i : Nat} {x : α} (h : i < l.length) : l.getD i x ∈ l := by
  rw [List.getD_eq_getElem?_getD, List.getElem?_eq_getElem h]
  exact List.getElem_mem h
theorem mem_getD {α : Type} {l : List α} {x a : α} (h : a ∈ l) : ∃ i, i < l.length ∧ l.getD i x = a := by
  obtain ⟨i, hi, e⟩ := List.getElem_of_mem h
  refine ⟨i, hi, ?_⟩
  rw [List.getD_eq_getElem?_getD, List.getElem?_eq_getElem hi]
  exact e
theorem getD_app {α : Type} {l l' : List α} {i : Nat} {x : α} (h : i < l.length) : (l ++ l').getD i x = l.getD i x := by
  rw [List.getD_eq_getElem?_getD, List.getD_eq_getElem?_getD, List.getElem?_append_left h]
theorem getD_new {α : Type} {l : List α} {a x : α} : (l ++ [a]).getD l.length x = a := by
  rw [List.getD_eq_getElem?_getD]
  simp
theorem mv_W (hw : isW u) (h : mv P R u y) : isW y ∧ y.length = u.length := by
  obtain ⟨a, x', h1, h2⟩ := h
  have hx : isW (x' ++ [a]) := fun b hb => hw b ((tk_mem h1 b).mpr (by
    rcases List.mem_append.mp hb with g | g
    · exact Or.inr g
    · exact Or.inl (by simpa using g)))
  rw [h2]
  refine ⟨lw_isW hx, ?_⟩
  rw [lw_len, tk_len h1]
  simp
theorem rch_W (hw : isW u) : ∀ {n : Nat} {y : List Int}, rch P R u n y → isW y ∧ y.length = u.length
  | 0, y, h => by have h : y = u := h; rw [h]; exact ⟨hw, rfl⟩
  | n + 1, y, ⟨x, hx, hm⟩ => by
    have h1 := rch_W hw hx
    have h2 := mv_W h1.1 hm
    exact ⟨h2.1, h2.2.trans h1.2⟩
theorem bfI_0 : bfI P R u [(u, 0)] 0 := by
  refine ⟨fun p hp => ?_, List.pairwise_singleton _ _, ⟨by simp, rfl⟩, List.pairwise_singleton _ _, fun _ p hp => ?_, fun i hi => by omega⟩
  · have hp : p = (u, 0) := by simpa using hp
    rw [hp]; exact rfl
  · have hp : p = (u, 0) := by simpa using hp
    rw [hp]; exact Nat.zero_le _
def bfA (bf : List (List Int × Nat)) (y : List Int) (m : Nat) : List (List Int × Nat) := if y ∈ bf.map (fun p => p.1) then bf else bf ++ [(y, m)]
/-- a word is noted -/
theorem bfI_A (h : bfI P R u bf k) (hk : k < bf.length) (hm : mv P R (bw bf k) y) : bfI P R u (bfA bf y (bm bf k + 1)) k ∧ k < (bfA bf y (bm bf k + 1)).length ∧ (bfA bf y (bm bf k + 1)).getD k zbf0 = bf.getD k zbf0 ∧ (∃ m, (y, m) ∈ bfA bf y (bm bf k + 1) ∧ m ≤ bm bf k + 1) ∧ ∀ p ∈ bf, p ∈ bfA bf y (bm bf k + 1) := by
  unfold bfA
  obtain ⟨h1, h2, h3, h4, h5, h6⟩ := h
  by_cases g : y ∈ bf.map (fun p => p.1)
  · rw [if_pos g]
    refine ⟨⟨h1, h2, h3, h4, h5, h6⟩, hk, rfl, ?_, fun p hp => hp⟩
    obtain ⟨p, p1, p2⟩ := List.mem_map.mp g
    refine ⟨p.2, ?_, h5 hk p p1⟩
    rw [← p2]; exact p1
  · rw [if_neg g]
    have e := getD_app (l := bf) (l' := [(y, bm bf k + 1)]) (i := k) (x := zbf0) hk
    have hin : ∀ p ∈ bf, p ∈ bf ++ [(y, bm bf k + 1)] := fun p hp => List.mem_append.mpr (Or.inl hp)
    refine ⟨⟨fun p hp => ?_, ?_, ⟨by simp, by rw [getD_app h3.1]; exact h3.2⟩, ?_, fun _ p hp => ?_, fun i hi hil z hz => ?_⟩, by simp; omega, e, ⟨_, List.mem_append.mpr (Or.inr (List.mem_singleton.mpr rfl)), Nat.le_refl _⟩, hin⟩
    · rcases List.mem_append.mp hp with q | q
      · exact h1 p q
      · have q := List.mem_singleton.mp q
        rw [q]
        exact ⟨bw bf k, h1 _ (getD_mem hk), hm⟩
    · rw [List.map_append, List.nodup_append]
      refine ⟨h2, List.pairwise_singleton _ _, fun a ha b hb hab => ?_⟩
      have hb : b = y := by simpa using hb
      rw [hab, hb] at ha
      exact g ha
    · refine List.pairwise_append.mpr ⟨h4, List.pairwise_singleton _ _, fun p hp q hq => ?_⟩
      have hq := List.mem_singleton.mp hq
      rw [hq]
      exact h5 hk p hp
    · unfold bm
      rw [e]
      rcases List.mem_append.mp hp with q | q
      · exact h5 hk p q
      · have q := List.mem_singleton.mp q
        rw [q]; exact Nat.le_refl _
    · have hil' : i < bf.length := by omega
      have ei := getD_app (l := bf) (l' := [(y, bm bf k + 1)]) (i := i) (x := zbf0) hil'
      unfold bw at hz
      unfold bm
      rw [ei] at hz ⊢
      obtain ⟨m, m1, m2⟩ := h6 i hi hil' z hz
      exact ⟨m, hin _ m1, m2⟩
theorem bfI_s (h : bfI P R u bf k) (hk : k < bf.length) (ha : ∀ y, mv P R (bw bf k) y → ∃ m, (y, m) ∈ bf ∧ m ≤ bm bf k + 1) : bfI P R u bf (k + 1) := by
  obtain ⟨h1, h2, h3, h4, h5, h6⟩ := h
  refine ⟨h1, h2, h3, h4, fun hk' p hp => ?_, fun i hi hil y hy => ?_⟩
  · have q1 := h5 hk p hp
    have q2 := List.pairwise_iff_getElem.mp h4 k (k + 1) hk hk' (by omega)
    have e1 : bm bf k = bf[k].2 := by
      unfold bm
      rw [List.getD_eq_getElem?_getD, List.getElem?_eq_getElem hk]; rfl
    have e2 : bm bf (k + 1) = bf[k + 1].2 := by
      unfold bm
      rw [List.getD_eq_getElem?_getD, List.getElem?_eq_getElem hk']; rfl
    omega
  · by_cases e : i = k
    · rw [e]; rw [e] at hy; exact ha y hy
    · exact h6 i (by omega) hil y hy
theorem bfI_mem (h2 : (bf.map (fun p => p.1)).Nodup) {m' : Nat} (h : (y, m) ∈ bf) (h' : (y, m') ∈ bf) : m = m' := by
  obtain ⟨i, hi, ei⟩ := List.getElem_of_mem h
  obtain ⟨j, hj, ej⟩ := List.getElem_of_mem h'
  rcases Nat.lt_trichotomy i j with g | g | g
  · have := List.pairwise_iff_getElem.mp h2 i j (by simpa using hi) (by simpa using hj) g
    simp [ei, ej] at this
  · subst g
    rw [ei] at ej
    exact congrArg Prod.snd ej
  · have := List.pairwise_iff_getElem.mp h2 j i (by simpa using hj) (by simpa using hi) g
    simp [ei, ej] at this
theorem bfI_e (h : bfI P R u bf k) (hk : bf.length ≤ k) : bfR P R u bf := by
  obtain ⟨h1, h2, h3, h4, h5, h6⟩ := h
  have hall : ∀ n y, rch P R u n y → ∃ m, (y, m) ∈ bf ∧ m ≤ n := by
    intro n
    induction n with
    | zero =>
      intro y h
      have h : y = u := h
      refine ⟨0, ?_, Nat.le_refl _⟩
      rw [h, ← h3.2]
      exact getD_mem h3.1
    | succ n ih =>
      rintro y ⟨x, hx, hm⟩
      obtain ⟨m, m1, m2⟩ := ih x hx
      obtain ⟨i, i1, i2⟩ := mem_getD (x := zbf0) m1
      obtain ⟨m', m3, m4⟩ := h6 i (by omega) i1 y (by unfold bw; rw [i2]; exact hm)
      unfold bm at m4
      rw [i2] at m4
      exact ⟨m', m3, by simp at m4; omega⟩
  refine ⟨fun p hp => ⟨h1 p hp, fun m hm hr => ?_⟩, fun n y hr => ?_, h2⟩
  · obtain ⟨m', m1, m2⟩ := hall m p.1 hr
    have := bfI_mem (m := p.2) (m' := m') h2 hp m1
    omega
  · obtain ⟨m, m1, _⟩ := hall n y hr
    exact ⟨m, m1⟩
theorem bfR_iff (h : bfR P R u bf) : (y, m) ∈ bf ↔ dst P R u y m := by
  constructor
  · intro hm; exact h.1 _ hm
  · intro hd
    obtain ⟨m', hm'⟩ := h.2.1 m y hd.1
    have hd' := h.1 _ hm'
    have : m = m' := by
      rcases Nat.lt_trichotomy m m' with g | g | g
      · exact absurd hd.1 (hd'.2 m g)
      · exact g
      · exact absurd hd'.1 (hd.2 m' g)
    rw [this]; exact hm'
theorem nodup_of_map {α β : Type} {f : α → β} : ∀ {l : List α}, (l.map f).Nodup → l.Nodup
  | [], _ => List.nodup_nil
  | a :: l, h => by
    rw [List.map_cons, List.nodup_cons] at h
    exact List.nodup_cons.mpr ⟨fun z => h.1 (List.mem_map.mpr ⟨a, z, rfl⟩), nodup_of_map h.2⟩
theorem bfR_perm (h : bfR P R u bf) (h' : bfR P R u bf') : bf.Perm bf' := by
  refine (List.perm_ext_iff_of_nodup (nodup_of_map h.2.2) (nodup_of_map h'.2.2)).mpr (fun p => ?_)
  obtain ⟨y, m⟩ := p
  rw [bfR_iff h, bfR_iff h']
theorem bfI_64 (ho : lOk P R) (hw : isW u) (hu : lw P R false u = u) (h7 : u.length ≤ 7) (h : bfI P R u bf k) : bf.length ≤ 64 := by
  have := room64 ho hw hu h7 h.2.1 (fun y hy => by
    obtain ⟨p, p1, p2⟩ := List.mem_map.mp hy
    exact ⟨p.2, by rw [← p2]; exact h.1 p p1⟩)
  rwa [List.length_map] at this
/-! words as numbers -/
theorem cod_s {w : List Int} {j : Nat} (h : j < w.length) : cod (w.take (j + 1)) = cod (w.take j) * 8 + (w.getD j 0).toNat := by
  unfold cod
  rw [take_succ_getD h, List.foldl_append]
  rfl
def nb (w : List Int) : Nat := w.foldl (fun c a => c * 6 + a.toNat) 0
theorem nb_s {w : List Int} {j : Nat} (h : j < w.length) : nb (w.take (j + 1)) = nb (w.take j) * 6 + (w.getD j 0).toNat := by
  unfold nb
  rw [take_succ_getD h, List.foldl_append]
  rfl
theorem cod_b {w : List Int} (hw : isW w) : ∀ j, j ≤ w.length → 8 ^ j ≤ cod (w.take j) ∧ cod (w.take j) < 2 * 8 ^ j
  | 0, _ => by simp [cod]
  | j + 1, h => by
    have ih := cod_b hw j (by omega)
    have := isW_at hw (show j < w.length by omega)
    rw [cod_s (by omega), Nat.pow_succ]
    omega
theorem nb_b {w : List Int} (hw : isW w) : ∀ j, j ≤ w.length → nb (w.take j) < 6 ^ j
  | 0, _ => by simp [nb]
  | j + 1, h => by
    have ih := nb_b hw j (by omega)
    have := isW_at hw (show j < w.length by omega)
    rw [nb_s (by omega), Nat.pow_succ]
    omega
theorem cod_len {x w : List Int} (hx : isW x) (hw : isW w) (h : cod x = cod w) : x.length = w.length := by
  have h1 := cod_b hx x.length (Nat.le_refl _)
  have h2 := cod_b hw w.length (Nat.le_refl _)
  rw [List.take_length] at h1 h2
  rcases Nat.lt_trichotomy x.length w.length with g | g | g
  · have : 8 ^ (x.length + 1) ≤ 8 ^ w.length := Nat.pow_le_pow_right (by omega) g
    rw [Nat.pow_succ] at this
    omega
  · exact g
  · have : 8 ^ (w.length + 1) ≤ 8 ^ x.length := Nat.pow_le_pow_right (by omega) g
    rw [Nat.pow_succ] at this
    omega
theorem cod_take {x w : List Int} (hx : isW x) (hw : isW w) (hl : x.length = w.length) : ∀ j, j ≤ x.length → (cod (x.take j) = cod (w.take j) → ∀ i, i < j → x.getD i 0 = w.getD i 0) ∧ (nb (x.take j) = nb (w.take j) ↔ cod (x.take j) = cod (w.take j)) ∧ (nb (x.take j) < nb (w.take j) ↔ cod (x.take j) < cod (w.take j))
  | 0, _ => by
    refine ⟨fun _ i hi => by omega, ?_, ?_⟩ <;> simp [nb, cod]
  | j + 1, h => by
    obtain ⟨i1, i2, i3⟩ := cod_take hx hw hl j (by omega)
    have a1 := isW_at hx (show j < x.length by omega)
    have a2 := isW_at hw (show j < w.length by omega)
    rw [cod_s (by omega), cod_s (by omega), nb_s (by omega), nb_s (by omega)]
    refine ⟨fun e i hi => ?_, ?_, ?_⟩
    · by_cases q : i = j
      · rw [q]; omega
      · exact i1 (by omega) i (by omega)
    · constructor
      · intro e
        have := i2.mp (by omega)
        omega
      · intro e
        have := i2.mpr (by omega)
        omega
    · generalize nb (x.take j) = n1 at *
      generalize nb (w.take j) = n2 at *
      generalize cod (x.take j) = c1 at *
      generalize cod (w.take j) = c2 at *
      by_cases q : c1 = c2
      · have := i2.mpr q
        omega
      · have : ¬ n1 = n2 := fun z => q (i2.mp z)
        by_cases q2 : c1 < c2
        · have := i3.mpr q2
          omega
        · have : ¬ n1 < n2 := fun z => q2 (i3.mp z)
          omega
theorem cod_inj {x w : List Int} (hx : isW x) (hw : isW w) (h : cod x = cod w) : x = w := by
  have hl := cod_len hx hw h
  refine getD_ext hl (fun i hi => (cod_take hx hw hl x.length (Nat.le_refl _)).1 ?_ i hi)
  rw [List.take_length, hl, List.take_length]; exact h
theorem nb_inj {x w : List Int} (hx : isW x) (hw : isW w) (hl : x.length = w.length) : nb x = nb w ↔ x = w := by
  constructor
  · intro h
    have := (cod_take hx hw hl x.length (Nat.le_refl _)).2.1
    rw [List.take_length, hl, List.take_length] at this
    exact cod_inj hx hw (this.mp h)
  · intro h; rw [h]
theorem nb_lt {x w : List Int} (hx : isW x) (hw : isW w) (hl : x.length = w.length) : nb x < nb w ↔ cod x < cod w := by
  have := (cod_take hx hw hl x.length (Nat.le_refl _)).2.2
  rw [List.take_length, hl, List.take_length] at this
  exact this
theorem cod_7 {w : List Int} (hw : isW w) (h7 : w.length ≤ 7) : cod w < 4194304 := by
  have h1 := (cod_b hw w.length (Nat.le_refl _)).2
  rw [List.take_length] at h1
  have : 8 ^ w.length ≤ 8 ^ 7 := Nat.pow_le_pow_right (by omega) h7
  have : (8 : Nat) ^ 7 = 2097152 := by decide
  omega
theorem nb_7 {w : List Int} (hw : isW w) (h7 : w.length ≤ 7) : nb w < 279936 := by
  have h1 := nb_b hw w.length (Nat.le_refl _)
  rw [List.take_length] at h1
  have : 6 ^ w.length ≤ 6 ^ 7 := Nat.pow_le_pow_right (by omega) h7
  have : (6 : Nat) ^ 7 = 279936 := by decide
  omega
theorem cod_div {w : List Int} (hw : isW w) : ∀ m, m ≤ w.length → cod w / 8 ^ m = cod (w.take (w.length - m))
  | 0, _ => by simp
  | m + 1, h => by
    have ih := cod_div hw m (by omega)
    have := isW_at hw (show w.length - (m + 1) < w.length by omega)
    have e := cod_s (w := w) (j := w.length - (m + 1)) (by omega)
    rw [show w.length - (m + 1) + 1 = w.length - m by omega] at e
    rw [Nat.pow_succ, ← Nat.div_div_eq_div_mul, ih]
    omega
end SE
