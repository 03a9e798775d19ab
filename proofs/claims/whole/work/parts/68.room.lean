/-! to how many words moves lead: not more than 64 from seven letters -/
def mg (lab : Nat → Nat) (i j : Nat) : Nat → Nat := fun x => if lab x = lab j then lab i else lab x
def cdE : List (Nat × Nat) → (Nat → Nat) → (Nat → Nat) → Nat
  | [], _, _ => 0
  | e :: E, lab, c => if lab e.1 = lab e.2 then cdE E lab c else (if c e.1 = c e.2 then 0 else 1) + 2 * cdE E (mg lab e.1 e.2) c
def rkE : List (Nat × Nat) → (Nat → Nat) → Nat
  | [], _ => 0
  | e :: E, lab => if lab e.1 = lab e.2 then rkE E lab else rkE E (mg lab e.1 e.2) + 1
def nlb (lab : Nat → Nat) (n : Nat) : Nat := cnt (fun l => (List.range n).any (fun x => decide (lab x = l))) n
theorem cdE_lt {c : Nat → Nat} : ∀ {E : List (Nat × Nat)} {lab : Nat → Nat}, cdE E lab c < 2 ^ rkE E lab
  | [], _ => by simp [cdE, rkE]
  | e :: E, lab => by
    unfold cdE rkE
    by_cases g : lab e.1 = lab e.2
    · rw [if_pos g, if_pos g]; exact cdE_lt
    · rw [if_neg g, if_neg g]
      have ih := cdE_lt (c := c) (E := E) (lab := mg lab e.1 e.2)
      rw [Nat.pow_succ]
      split <;> omega
theorem cdE_in {c c' : Nat → Nat} : ∀ {E : List (Nat × Nat)} {lab : Nat → Nat}, (∀ e ∈ E, (c e.1 = c e.2 ∨ c e.1 = c e.2 + 1) ∧ (c' e.1 = c' e.2 ∨ c' e.1 = c' e.2 + 1)) → (∀ x y, lab x = lab y → c x + c' y = c' x + c y) → cdE E lab c = cdE E lab c' → ∀ e ∈ E, c e.1 + c' e.2 = c' e.1 + c e.2
  | [], _, _, _, _ => fun e he => by simp at he
  | e :: E, lab, hv, hl, h => by
    have hv1 := fun x hx => hv x (List.mem_cons_of_mem e hx)
    have hv0 := hv e (List.mem_cons_self ..)
    unfold cdE at h
    intro x hx
    by_cases g : lab e.1 = lab e.2
    · rw [if_pos g, if_pos g] at h
      rcases List.mem_cons.mp hx with z | z
      · rw [z]; exact hl _ _ g
      · exact cdE_in hv1 hl h x z
    · rw [if_neg g, if_neg g] at h
      have hd : c e.1 + c' e.2 = c' e.1 + c e.2 := by
        by_cases g1 : c e.1 = c e.2
        · by_cases g2 : c' e.1 = c' e.2
          · omega
          · rw [if_pos g1, if_neg g2] at h; omega
        · by_cases g2 : c' e.1 = c' e.2
          · rw [if_neg g1, if_pos g2] at h; omega
          · omega
      have hc : cdE E (mg lab e.1 e.2) c = cdE E (mg lab e.1 e.2) c' := by
        by_cases g1 : c e.1 = c e.2
        · have g2 : c' e.1 = c' e.2 := by omega
          rw [if_pos g1, if_pos g2] at h; omega
        · have g2 : ¬ c' e.1 = c' e.2 := by omega
          rw [if_neg g1, if_neg g2] at h; omega
      rcases List.mem_cons.mp hx with z | z
      · rw [z]; exact hd
      · refine cdE_in hv1 (fun x y hxy => ?_) hc x z
        unfold mg at hxy
        by_cases k1 : lab x = lab e.2
        · have q1 := hl _ _ k1
          by_cases k2 : lab y = lab e.2
          · exact hl _ _ (k1.trans k2.symm)
          · rw [if_pos k1, if_neg k2] at hxy
            have q2 := hl _ _ hxy
            omega
        · by_cases k2 : lab y = lab e.2
          · rw [if_neg k1, if_pos k2] at hxy
            have q1 := hl _ _ hxy
            have q2 := hl _ _ k2
            omega
          · rw [if_neg k1, if_neg k2] at hxy
            exact hl _ _ hxy
theorem cnt_1 {p q : Nat → Bool} {i : Nat} : ∀ {k : Nat}, i < k → (∀ j, j < k → j ≠ i → p j = q j) → p i = true → q i = false → cnt p k = cnt q k + 1
  | 0, h, _, _, _ => by omega
  | k + 1, h, h1, h2, h3 => by
    show cnt p k + _ = cnt q k + _ + 1
    by_cases e : i = k
    · subst e
      rw [cnt_c (fun j hj => h1 j (by omega) (by omega)), h2, h3]; simp
    · rw [cnt_1 (i := i) (by omega) (fun j hj hne => h1 j (by omega) hne) h2 h3, h1 k (by omega) (Ne.symm e)]
      omega
theorem any_rg {f : Nat → Bool} {n : Nat} : (List.range n).any f = true ↔ ∃ x, x < n ∧ f x = true := by
  rw [List.any_eq_true]
  constructor
  · rintro ⟨x, h1, h2⟩; exact ⟨x, List.mem_range.mp h1, h2⟩
  · rintro ⟨x, h1, h2⟩; exact ⟨x, List.mem_range.mpr h1, h2⟩
theorem nlb_mg {lab : Nat → Nat} {n i j : Nat} (hi : i < n) (hj : j < n) (hl : ∀ x, x < n → lab x < n) (hne : lab i ≠ lab j) : nlb lab n = nlb (mg lab i j) n + 1 := by
  unfold nlb
  refine cnt_1 (i := lab j) (hl j hj) (fun l hl hne' => ?_) (any_rg.mpr ⟨j, hj, by simp⟩) ?_
  · apply Bool.eq_iff_iff.mpr
    rw [any_rg, any_rg]
    constructor
    · rintro ⟨x, h1, h2⟩
      have h2 := of_decide_eq_true h2
      exact ⟨x, h1, by unfold mg; rw [if_neg (by omega)]; simp [h2]⟩
    · rintro ⟨x, h1, h2⟩
      have h2 := of_decide_eq_true h2
      unfold mg at h2
      by_cases g : lab x = lab j
      · rw [if_pos g] at h2
        exact ⟨i, hi, by simp [h2]⟩
      · rw [if_neg g] at h2
        exact ⟨x, h1, by simp [h2]⟩
  · cases q : (List.range n).any (fun x => decide (mg lab i j x = lab j))
    · rfl
    · obtain ⟨x, h1, h2⟩ := any_rg.mp q
      have h2 := of_decide_eq_true h2
      unfold mg at h2
      by_cases g : lab x = lab j
      · rw [if_pos g] at h2; exact absurd h2 hne
      · rw [if_neg g] at h2; exact absurd h2 g
theorem rkE_le {n : Nat} (hn : 0 < n) : ∀ {E : List (Nat × Nat)} {lab : Nat → Nat}, (∀ e ∈ E, e.1 < n ∧ e.2 < n) → (∀ x, x < n → lab x < n) → rkE E lab + 1 ≤ nlb lab n
  | [], lab, _, hl => by
    show 0 + 1 ≤ cnt _ n
    have h1 : (List.range n).any (fun x => decide (lab x = lab 0)) = true := any_rg.mpr ⟨0, hn, by simp⟩
    have := cnt_up (p := fun l => (List.range n).any (fun x => decide (lab x = l))) (hl 0 hn) h1
    omega
  | e :: E, lab, hE, hl => by
    have hE0 := hE e (List.mem_cons_self ..)
    have hE1 := fun x hx => hE x (List.mem_cons_of_mem e hx)
    unfold rkE
    by_cases g : lab e.1 = lab e.2
    · rw [if_pos g]; exact rkE_le hn hE1 hl
    · rw [if_neg g, nlb_mg hE0.1 hE0.2 hl g]
      have := rkE_le hn hE1 (lab := mg lab e.1 e.2) (fun x hx => by
        unfold mg
        split
        · exact hl _ hE0.1
        · exact hl _ hx)
      omega
theorem nodup_le : ∀ {m : Nat} {l : List Nat}, l.Nodup → (∀ x ∈ l, x < m) → l.length ≤ m
  | 0, l, _, h => by
    cases l with
    | nil => exact Nat.le_refl _
    | cons a l => have := h a (List.mem_cons_self ..); omega
  | m + 1, l, hn, h => by
    by_cases g : m ∈ l
    · have h1 := nodup_le (m := m) (hn.erase m) (fun x hx => by
        have h2 := (hn.mem_erase_iff).mp hx
        have := h x h2.2
        have := h2.1
        omega)
      rw [List.length_erase_of_mem g] at h1
      omega
    · have := nodup_le (m := m) hn (fun x hx => by
        have := h x hx
        have : x ≠ m := fun z => g (z ▸ hx)
        omega)
      omega
section RO
variable {P R : Nat → Nat} {u : List Int}
/-- letters that do not pass -/
def dp (P : Nat → Nat) (u : List Int) (i j : Nat) : Prop := psL P (u.getD i 0) (u.getD j 0) = false
def lx (c : Nat → Nat) (i j : Nat) : Prop := c i < c j ∨ (c i = c j ∧ i < j)
def vl (P : Nat → Nat) (u : List Int) (c : Nat → Nat) : Prop := ∀ i j, i < j → j < u.length → dp P u i j → c i = c j ∨ c i = c j + 1
def mpu (u : List Int) (l : List Nat) : List Int := l.map (fun i => u.getD i 0)
def cfg (P R : Nat → Nat) (u : List Int) (c : Nat → Nat) (y : List Int) : Prop := vl P u c ∧ ∃ l : List Nat, l.Perm (List.range u.length) ∧ l.Pairwise (fun i j => dp P u i j → lx c i j) ∧ y = lw P R false (mpu u l)
theorem dp_sy (ho : lOk P R) (hw : isW u) {i j : Nat} (hi : i < u.length) (hj : j < u.length) (h : dp P u i j) : dp P u j i := by
  unfold dp at *
  rw [psL_sym ho (isW_at hw hj) (isW_at hw hi)]; exact h
theorem cfg_0 (hu : lw P R false u = u) : cfg P R u (fun _ => 0) u := by
  refine ⟨fun i j _ _ _ => Or.inl rfl, List.range u.length, List.Perm.refl _, ?_, ?_⟩
  · exact List.pairwise_lt_range.imp (fun h _ => Or.inr ⟨rfl, h⟩)
  · have : mpu u (List.range u.length) = u := by
      refine getD_ext (by simp [mpu]) (fun j hj => ?_)
      have hj' : j < u.length := by simpa [mpu] using hj
      unfold mpu
      simp [List.getD_eq_getElem?_getD, List.getElem?_map, List.getElem?_range hj']
    rw [this, hu]
theorem cfg_s (ho : lOk P R) (hw : isW u) {c : Nat → Nat} {y y2 : List Int} (h : cfg P R u c y) (hm : mv P R y y2) : ∃ c', cfg P R u c' y2 := by
  obtain ⟨hv, l, h1, h2, h3⟩ := h
  obtain ⟨a, x', k1, k2⟩ := hm
  have hmem : ∀ i, i ∈ l → i < u.length := fun i hi => List.mem_range.mp (h1.mem_iff.mp hi)
  have hW : isW (mpu u l) := fun b hb => by
    obtain ⟨i, hi, rfl⟩ := List.mem_map.mp hb
    exact isW_at hw (hmem i hi)
  have he : eqt (psL P) y (mpu u l) := by rw [h3]; exact (eqt_lw ho hW).sy
  obtain ⟨z, z1, z2⟩ := he.tk (psL_irr P) k1
  obtain ⟨p, q, s1, s2, s3⟩ := tk_split z1
  obtain ⟨l1, l', e1, e2, e3⟩ := List.map_eq_append_iff.mp s1
  obtain ⟨i, l2, f1, f2, f3⟩ := List.map_eq_cons_iff.mp e3
  subst f1
  subst e1
  have hi := hmem i (by simp)
  have hnd : (l1 ++ i :: l2).Nodup := h1.nodup_iff.mpr List.nodup_range
  have hready : ∀ j ∈ l1 ++ l2, dp P u i j → lx c i j := fun j hj hd => by
    rcases List.mem_append.mp hj with g | g
    · have : psL P a (u.getD j 0) = true := s3 _ (by rw [← e2]; exact List.mem_map.mpr ⟨j, g, rfl⟩)
      unfold dp at hd
      rw [f2, this] at hd
      cases hd
    · have := (List.pairwise_append.mp h2).2.1
      exact (List.pairwise_cons.mp this).1 j g hd
  have hin : ∀ j, j < u.length → j ≠ i → j ∈ l1 ++ l2 := fun j hj hne => by
    have := h1.mem_iff.mpr (List.mem_range.mpr hj)
    simp at this ⊢
    rcases this with g | g | g
    · exact Or.inl g
    · exact absurd g hne
    · exact Or.inr g
  have hni : ∀ j ∈ l1 ++ l2, j ≠ i ∧ j < u.length := fun j hj => by
    refine ⟨fun z => ?_, hmem j (by simp at hj ⊢; rcases hj with g | g <;> simp [g])⟩
    subst z
    have h4 := List.nodup_append.mp hnd
    rcases List.mem_append.mp hj with g | g
    · exact h4.2.2 j g j (List.mem_cons_self ..) rfl
    · exact (List.nodup_cons.mp h4.2.1).1 g
  refine ⟨fun j => if j = i then c j + 1 else c j, fun j k hjk hk hd => ?_, l1 ++ l2 ++ [i], ?_, ?_, ?_⟩
  · by_cases g1 : j = i
    · subst g1
      have g2 : k ≠ j := by omega
      have := hready k (hin k hk g2) hd
      have := hv j k hjk hk hd
      simp only [if_pos, if_neg g2]
      unfold lx at *
      omega
    · by_cases g2 : k = i
      · subst g2
        have := hready j (hin j (by omega) g1) (dp_sy ho hw (by omega) hk hd)
        have := hv j k hjk hk hd
        simp only [if_pos, if_neg g1]
        unfold lx at *
        omega
      · simp only [if_neg g1, if_neg g2]
        exact hv j k hjk hk hd
  · refine List.Perm.trans ?_ h1
    rw [List.append_assoc]
    exact List.Perm.append_left _ (List.perm_append_comm (l₁ := l2) (l₂ := [i]))
  · refine List.pairwise_append.mpr ⟨?_, List.pairwise_singleton _ _, fun j hj k hk hd => ?_⟩
    · have h5 := List.pairwise_append.mp h2
      have h6 : (l1 ++ l2).Pairwise (fun i j => dp P u i j → lx c i j) := List.pairwise_append.mpr ⟨h5.1, (List.pairwise_cons.mp h5.2.1).2, fun j hj k hk => h5.2.2 j hj k (List.mem_cons_of_mem _ hk)⟩
      refine List.Pairwise.imp_of_mem (fun {j k} hj hk h hd => ?_) h6
      have := h hd
      unfold lx at *
      simp only [if_neg (hni j hj).1, if_neg (hni k hk).1]
      exact this
    · have hk : k = i := by simpa using hk
      subst hk
      have hj' := hni j hj
      unfold lx
      simp only [if_pos, if_neg hj'.1]
      by_cases g : j < k
      · have := hv j k g hi hd
        omega
      · have := hv k j (by omega) hj'.2 (dp_sy ho hw hj'.2 hi hd)
        omega
  · rw [k2]
    have e4 : mpu u (l1 ++ l2 ++ [i]) = z ++ [a] := by
      unfold mpu
      rw [s2, ← e2, ← f3, ← f2]
      simp
    rw [e4]
    exact lw_eqt z2.ap
theorem cfg_rch (ho : lOk P R) (hw : isW u) (hu : lw P R false u = u) : ∀ {n : Nat} {y : List Int}, rch P R u n y → ∃ c, cfg P R u c y
  | 0, y, h => by
    have h : y = u := h
    rw [h]
    exact ⟨_, cfg_0 hu⟩
  | n + 1, y, ⟨x, hx, hm⟩ => by
    obtain ⟨c, hc⟩ := cfg_rch ho hw hu hx
    exact cfg_s ho hw hc hm
/-- the order of what does not pass tells the word -/
theorem det (ho : lOk P R) (hw : isW u) {c c' : Nat → Nat} : ∀ {l l' : List Nat}, l.Perm l' → (∀ i ∈ l, i < u.length) → l.Nodup → l.Pairwise (fun i j => dp P u i j → lx c i j) → l'.Pairwise (fun i j => dp P u i j → lx c' i j) → (∀ i ∈ l, ∀ j ∈ l, dp P u i j → lx c i j → ¬ lx c' j i) → eqt (psL P) (mpu u l) (mpu u l')
  | [], l', hp, _, _, _, _, _ => by rw [hp.nil_eq]; exact eqt.r0
  | i :: t, l', hp, hm, hn, h1, h2, h3 => by
    obtain ⟨p, q, rfl⟩ := List.append_of_mem (hp.mem_iff.mp (List.mem_cons_self ..))
    have hp2 : t.Perm (p ++ q) := List.Perm.cons_inv (hp.trans List.perm_middle)
    have h5 := List.pairwise_append.mp h2
    have h6 : (p ++ q).Pairwise (fun i j => dp P u i j → lx c' i j) := List.pairwise_append.mpr ⟨h5.1, (List.pairwise_cons.mp h5.2.1).2, fun j hj k hk => h5.2.2 j hj k (List.mem_cons_of_mem _ hk)⟩
    have hi := hm i (List.mem_cons_self ..)
    have ih := det ho hw (l := t) (l' := p ++ q) hp2 (fun j hj => hm j (List.mem_cons_of_mem _ hj)) (List.nodup_cons.mp hn).2 (List.pairwise_cons.mp h1).2 h6 (fun j hj k hk => h3 j (List.mem_cons_of_mem _ hj) k (List.mem_cons_of_mem _ hk))
    have hf := eqt_front (ps := psL P) (a := u.getD i 0) (p := mpu u p) (w := mpu u q) (fun b hb => by
      obtain ⟨j, hj, rfl⟩ := List.mem_map.mp hb
      have hjt : j ∈ t := hp2.mem_iff.mpr (by simp [hj])
      have hjl := hm j (List.mem_cons_of_mem _ hjt)
      have hnot : ¬ dp P u i j := fun hd => h3 i (List.mem_cons_self ..) j (List.mem_cons_of_mem _ hjt) hd ((List.pairwise_cons.mp h1).1 j hjt hd) (h5.2.2 j hj i (List.mem_cons_self ..) (dp_sy ho hw hi hjl hd))
      have hy : psL P (u.getD i 0) (u.getD j 0) = true := by
        unfold dp at hnot
        cases g : psL P (u.getD i 0) (u.getD j 0)
        · exact absurd g hnot
        · rfl
      refine ⟨hy, ?_⟩
      rw [psL_sym ho (isW_at hw hjl) (isW_at hw hi)]
      exact hy)
    have e1 : mpu u (p ++ i :: q) = mpu u p ++ u.getD i 0 :: mpu u q := by simp [mpu]
    have e2 : mpu u (p ++ q) = mpu u p ++ mpu u q := by simp [mpu]
    rw [e2] at ih
    rw [e1]
    exact (ih.co (a := u.getD i 0)).tr hf.sy
def dE (P : Nat → Nat) (u : List Int) : List (Nat × Nat) := (List.range u.length).flatMap (fun j => ((List.range j).filter (fun i => !psL P (u.getD i 0) (u.getD j 0))).map (fun i => (i, j)))
theorem dE_iff {i j : Nat} : (i, j) ∈ dE P u ↔ i < j ∧ j < u.length ∧ dp P u i j := by
  unfold dE dp
  rw [List.mem_flatMap]
  constructor
  · rintro ⟨k, h1, h2⟩
    obtain ⟨m, h3, h4⟩ := List.mem_map.mp h2
    cases h4
    have h5 := List.mem_filter.mp h3
    refine ⟨List.mem_range.mp h5.1, List.mem_range.mp h1, ?_⟩
    simpa using h5.2
  · rintro ⟨h1, h2, h3⟩
    refine ⟨j, List.mem_range.mpr h2, List.mem_map.mpr ⟨i, List.mem_filter.mpr ⟨List.mem_range.mpr h1, by rw [h3]; rfl⟩, rfl⟩⟩
theorem cfg_one (ho : lOk P R) (hw : isW u) {c c' : Nat → Nat} {y y' : List Int} (h : cfg P R u c y) (h' : cfg P R u c' y') (he : cdE (dE P u) id c = cdE (dE P u) id c') : y = y' := by
  obtain ⟨hv, l, h1, h2, h3⟩ := h
  obtain ⟨hv', l', h1', h2', h3'⟩ := h'
  have hd := cdE_in (E := dE P u) (lab := id) (c := c) (c' := c') (fun e he => by
    obtain ⟨a1, a2, a3⟩ := dE_iff.mp he
    exact ⟨hv _ _ a1 a2 a3, hv' _ _ a1 a2 a3⟩) (fun x y hxy => by have hxy : x = y := hxy; rw [hxy]; omega) he
  have hmem : ∀ i, i ∈ l → i < u.length := fun i hi => List.mem_range.mp (h1.mem_iff.mp hi)
  rw [h3, h3']
  refine lw_eqt (det ho hw (h1.trans h1'.symm) hmem (h1.nodup_iff.mpr List.nodup_range) h2 h2' (fun i hi j hj hdp hl hl' => ?_))
  have hi := hmem i hi
  have hj := hmem j hj
  unfold lx at hl hl'
  rcases Nat.lt_trichotomy i j with g | g | g
  · have q1 := hd (i, j) (dE_iff.mpr ⟨g, hj, hdp⟩)
    have q1 : c i + c' j = c' i + c j := q1
    have := hv i j g hj hdp
    have := hv' i j g hj hdp
    omega
  · subst g
    omega
  · have hdp' := dp_sy ho hw hi hj hdp
    have q1 := hd (j, i) (dE_iff.mpr ⟨g, hi, hdp'⟩)
    have q1 : c j + c' i = c' j + c i := q1
    have := hv j i g hi hdp'
    have := hv' j i g hi hdp'
    omega
theorem nlb_id {n : Nat} : nlb id n ≤ n := cnt_le _ _
/-- the room is enough -/
theorem room64 (ho : lOk P R) (hw : isW u) (hu : lw P R false u = u) (h7 : u.length ≤ 7) {X : List (List Int)} (hX : X.Nodup) (hr : ∀ y ∈ X, ∃ n, rch P R u n y) : X.length ≤ 64 := by
  have hc : ∀ y ∈ X, ∃ c, cfg P R u c y := fun y hy => by
    obtain ⟨n, hn⟩ := hr y hy
    exact cfg_rch ho hw hu hn
  have hf : ∃ f : List Int → Nat, ∀ y ∈ X, ∃ c, cfg P R u c y ∧ f y = cdE (dE P u) id c := by
    refine ⟨fun y => @dite Nat (∃ c, cfg P R u c y) (Classical.propDecidable _) (fun h => cdE (dE P u) id (Classical.choose h)) (fun _ => 0), fun y hy => ?_⟩
    have h := hc y hy
    exact ⟨Classical.choose h, Classical.choose_spec h, dif_pos h⟩
  obtain ⟨f, hf⟩ := hf
  have hrk : rkE (dE P u) id ≤ 6 := by
    rcases Nat.eq_zero_or_pos u.length with z | z
    · have : dE P u = [] := by unfold dE; rw [z]; rfl
      rw [this]; exact Nat.zero_le _
    · have h1 := rkE_le z (E := dE P u) (lab := id) (fun e he => by
        obtain ⟨a1, a2, a3⟩ := dE_iff.mp he
        exact ⟨by omega, a2⟩) (fun x hx => hx)
      have h2 := nlb_id (n := u.length)
      omega
  have h64 : 2 ^ rkE (dE P u) id ≤ 64 := Nat.pow_le_pow_right (n := 2) (by omega) hrk
  have hn : (X.map f).Nodup := by
    refine List.pairwise_map.mpr (List.Pairwise.imp_of_mem (fun {a b} ha hb hne heq => ?_) hX)
    obtain ⟨c, h1, h2⟩ := hf a ha
    obtain ⟨c', h3, h4⟩ := hf b hb
    exact hne (cfg_one ho hw h1 h3 (by rw [← h2, ← h4]; exact heq))
  have := nodup_le (m := 64) hn (fun x hx => by
    obtain ⟨y, hy, rfl⟩ := List.mem_map.mp hx
    obtain ⟨c, _, h2⟩ := hf y hy
    rw [h2]
    exact Nat.lt_of_lt_of_le cdE_lt h64)
  rw [List.length_map] at this
  exact this
end RO
