/-! the code tables are the code -/
theorem zchM_all {μ : Nat} (h : μ < 225) : zchM μ = true := by
  rcases Nat.lt_or_ge μ 8 with g | g
  · exact List.all_eq_true.mp zck_0 μ (List.mem_range'_1.mpr ⟨by omega, by omega⟩)
  rcases Nat.lt_or_ge μ 23 with g | g
  · exact List.all_eq_true.mp zck_8 μ (List.mem_range'_1.mpr ⟨by omega, by omega⟩)
  rcases Nat.lt_or_ge μ 32 with g | g
  · exact List.all_eq_true.mp zck_23 μ (List.mem_range'_1.mpr ⟨by omega, by omega⟩)
  rcases Nat.lt_or_ge μ 44 with g | g
  · exact List.all_eq_true.mp zck_32 μ (List.mem_range'_1.mpr ⟨by omega, by omega⟩)
  rcases Nat.lt_or_ge μ 64 with g | g
  · exact List.all_eq_true.mp zck_44 μ (List.mem_range'_1.mpr ⟨by omega, by omega⟩)
  rcases Nat.lt_or_ge μ 81 with g | g
  · exact List.all_eq_true.mp zck_64 μ (List.mem_range'_1.mpr ⟨by omega, by omega⟩)
  rcases Nat.lt_or_ge μ 84 with g | g
  · exact List.all_eq_true.mp zck_81 μ (List.mem_range'_1.mpr ⟨by omega, by omega⟩)
  rcases Nat.lt_or_ge μ 91 with g | g
  · exact List.all_eq_true.mp zck_84 μ (List.mem_range'_1.mpr ⟨by omega, by omega⟩)
  rcases Nat.lt_or_ge μ 100 with g | g
  · exact List.all_eq_true.mp zck_91 μ (List.mem_range'_1.mpr ⟨by omega, by omega⟩)
  rcases Nat.lt_or_ge μ 110 with g | g
  · exact List.all_eq_true.mp zck_100 μ (List.mem_range'_1.mpr ⟨by omega, by omega⟩)
  rcases Nat.lt_or_ge μ 116 with g | g
  · exact List.all_eq_true.mp zck_110 μ (List.mem_range'_1.mpr ⟨by omega, by omega⟩)
  rcases Nat.lt_or_ge μ 124 with g | g
  · exact List.all_eq_true.mp zck_116 μ (List.mem_range'_1.mpr ⟨by omega, by omega⟩)
  rcases Nat.lt_or_ge μ 133 with g | g
  · exact List.all_eq_true.mp zck_124 μ (List.mem_range'_1.mpr ⟨by omega, by omega⟩)
  rcases Nat.lt_or_ge μ 146 with g | g
  · exact List.all_eq_true.mp zck_133 μ (List.mem_range'_1.mpr ⟨by omega, by omega⟩)
  rcases Nat.lt_or_ge μ 162 with g | g
  · exact List.all_eq_true.mp zck_146 μ (List.mem_range'_1.mpr ⟨by omega, by omega⟩)
  rcases Nat.lt_or_ge μ 165 with g | g
  · exact List.all_eq_true.mp zck_162 μ (List.mem_range'_1.mpr ⟨by omega, by omega⟩)
  rcases Nat.lt_or_ge μ 171 with g | g
  · exact List.all_eq_true.mp zck_165 μ (List.mem_range'_1.mpr ⟨by omega, by omega⟩)
  rcases Nat.lt_or_ge μ 179 with g | g
  · exact List.all_eq_true.mp zck_171 μ (List.mem_range'_1.mpr ⟨by omega, by omega⟩)
  rcases Nat.lt_or_ge μ 183 with g | g
  · exact List.all_eq_true.mp zck_179 μ (List.mem_range'_1.mpr ⟨by omega, by omega⟩)
  rcases Nat.lt_or_ge μ 187 with g | g
  · exact List.all_eq_true.mp zck_183 μ (List.mem_range'_1.mpr ⟨by omega, by omega⟩)
  rcases Nat.lt_or_ge μ 190 with g | g
  · exact List.all_eq_true.mp zck_187 μ (List.mem_range'_1.mpr ⟨by omega, by omega⟩)
  rcases Nat.lt_or_ge μ 194 with g | g
  · exact List.all_eq_true.mp zck_190 μ (List.mem_range'_1.mpr ⟨by omega, by omega⟩)
  rcases Nat.lt_or_ge μ 199 with g | g
  · exact List.all_eq_true.mp zck_194 μ (List.mem_range'_1.mpr ⟨by omega, by omega⟩)
  rcases Nat.lt_or_ge μ 205 with g | g
  · exact List.all_eq_true.mp zck_199 μ (List.mem_range'_1.mpr ⟨by omega, by omega⟩)
  rcases Nat.lt_or_ge μ 208 with g | g
  · exact List.all_eq_true.mp zck_205 μ (List.mem_range'_1.mpr ⟨by omega, by omega⟩)
  rcases Nat.lt_or_ge μ 210 with g | g
  · exact List.all_eq_true.mp zck_208 μ (List.mem_range'_1.mpr ⟨by omega, by omega⟩)
  rcases Nat.lt_or_ge μ 217 with g | g
  · exact List.all_eq_true.mp zck_210 μ (List.mem_range'_1.mpr ⟨by omega, by omega⟩)
  rcases Nat.lt_or_ge μ 223 with g | g
  · exact List.all_eq_true.mp zck_217 μ (List.mem_range'_1.mpr ⟨by omega, by omega⟩)
  exact List.all_eq_true.mp zck_223 μ (List.mem_range'_1.mpr ⟨by omega, by omega⟩)
theorem zblk_ok {μ : Nat} (h : μ < 225) (pc : Nat) : zchb μ pc (zblk μ pc) = true := by
  have h1 := zchM_all h
  unfold zchM at h1
  unfold zblk
  cases hq : (zcd.getD μ []).lookup pc with
  | none => rfl
  | some is =>
    obtain ⟨l1, l2, h2, -⟩ := List.lookup_eq_some_iff.mp hq
    exact List.all_eq_true.mp h1 (pc, is) (by rw [h2]; simp)
theorem zmt_len : zmt.length = 225 := by decide +kernel
/-- THE WAY TO PROVE: a stretch of code from pc on, up to the cuts -/
theorem zEx_run {d μ : Nat} {b : zB} {Q : Int → zW → Prop} {pc : Nat} {S : zMS} (cuts : List Nat) (n : Nat) (hμ : μ < 225) (h : zbr b (zEv d) (zJ b (zEv d) (zEx (d + 1) μ b Q) Q (zrk μ) μ cuts n) Q (zrk μ) (zblk μ pc) pc S) : zEx (d + 1) μ b Q pc S := by
  intro hbb p l e s m args below meth c D ca A ad0 C0
  have hJ : ∀ (n : Nat) (pc : Nat) (S : zMS), zJ b (zEv d) (zEx (d + 1) μ b Q) Q (zrk μ) μ cuts n pc S → zWS p l e s m args below meth c D ca A (d + 1) μ b ad0 (MQ below (zPo D ca A b ad0 (zrk μ) Q) args s b.2.2.1 b.2.2.2 A) pc S := by
    intro n
    induction n with
    | zero => exact fun pc S h => h hbb p l e s m args below meth c D ca A ad0 C0
    | succ n ih =>
      intro pc S h
      unfold zJ at h
      split at h
      · exact h hbb p l e s m args below meth c D ca A ad0 C0
      · exact zbr_ok hbb (by rw [zmt_len]; exact hμ) C0 ih _ pc S (zblk_ok hμ pc) h
  exact zbr_ok hbb (by rw [zmt_len]; exact hμ) C0 (hJ n) _ pc S (zblk_ok hμ pc) h
theorem zini_args {ad : Nat → Nat} : ∀ (a : List zV) (i : Nat) (j : Nat) (v : zV), (zini a)[j]? = some v → v ≠ zN → (i + j, zcv ad v) ∈ lv_args i (a.map (zcv ad))
  | [], i, j, v, h, _ => by simp [zini] at h
  | .inl x :: a, i, j, v, h, hn => by
    cases j with
    | zero => cases h; exact List.mem_cons_self
    | succ j =>
      have := zini_args (ad := ad) a (i + 1) j v h hn
      rw [show i + (j + 1) = i + 1 + j by omega]
      exact List.mem_cons_of_mem _ this
  | .inr (.inl x) :: a, i, 0, v, h, hn => by cases h; exact List.mem_cons_self
  | .inr (.inl x) :: a, i, 1, v, h, hn => by cases h; exact absurd rfl hn
  | .inr (.inl x) :: a, i, j + 2, v, h, hn => by
      have := zini_args (ad := ad) a (i + 2) j v h hn
      rw [show i + (j + 2) = i + 2 + j by omega]
      exact List.mem_cons_of_mem _ this
  | .inr (.inr (.inl x)) :: a, i, j, v, h, hn => by
    cases j with
    | zero => cases h; exact List.mem_cons_self
    | succ j =>
      have := zini_args (ad := ad) a (i + 1) j v h hn
      rw [show i + (j + 1) = i + 1 + j by omega]
      exact List.mem_cons_of_mem _ this
  | .inr (.inr (.inr x)) :: a, i, j, v, h, hn => by
    cases j with
    | zero => cases h; exact absurd rfl hn
    | succ j =>
      have := zini_args (ad := ad) a (i + 1) j v h hn
      rw [show i + (j + 1) = i + 1 + j by omega]
      exact List.mem_cons_of_mem _ this
theorem zini_len {ad : Nat → Nat} : ∀ (a : List zV), (lg_sl (a.map (zcv ad))).length = (zini a).length
  | [] => rfl
  | .inl x :: a => by simp [zini, lg_sl, zcv, Value.category, ← zini_len (ad := ad) a]
  | .inr (.inl x) :: a => by simp [zini, lg_sl, zcv, Value.category, ← zini_len (ad := ad) a]
  | .inr (.inr (.inl x)) :: a => by simp [zini, lg_sl, zcv, Value.category, ← zini_len (ad := ad) a]
  | .inr (.inr (.inr x)) :: a => by simp [zini, lg_sl, zcv, Value.category, ← zini_len (ad := ad) a]
theorem zini_mem {P : zV → Prop} (hN : P zN) : ∀ (a : List zV), (∀ v ∈ a, P v) → ∀ v ∈ zini a, P v
  | [], _, v, h => by simp [zini] at h
  | .inl x :: a, ha, v, h => by
    rcases List.mem_cons.mp h with rfl | h
    · exact ha _ List.mem_cons_self
    · exact zini_mem hN a (fun u hu => ha u (List.mem_cons_of_mem _ hu)) v h
  | .inr (.inl x) :: a, ha, v, h => by
    rcases List.mem_cons.mp h with rfl | h
    · exact ha _ List.mem_cons_self
    · rcases List.mem_cons.mp h with rfl | h
      · exact hN
      · exact zini_mem hN a (fun u hu => ha u (List.mem_cons_of_mem _ hu)) v h
  | .inr (.inr (.inl x)) :: a, ha, v, h => by
    rcases List.mem_cons.mp h with rfl | h
    · exact ha _ List.mem_cons_self
    · exact zini_mem hN a (fun u hu => ha u (List.mem_cons_of_mem _ hu)) v h
  | .inr (.inr (.inr x)) :: a, ha, v, h => by
    rcases List.mem_cons.mp h with rfl | h
    · exact ha _ List.mem_cons_self
    · exact zini_mem hN a (fun u hu => ha u (List.mem_cons_of_mem _ hu)) v h
/-- a method out of its code -/
theorem zEv_of {d μ : Nat} {a : List zV} {w : zW} {Q : Int → zW → Prop} (ls : List zV) (hμ : μ < 225) (hl : zini a ++ List.replicate (zmaxL μ - (zini a).length) zN = ls) (hn : (zini a).length ≤ zmaxL μ) (h : zEx d μ (zbd μ a w) Q 0 (ls, [], w)) : zEv d μ a w Q := by
  intro l D ca ad sz
  obtain ⟨c1, c2, c3, c4, c5, c6, c7, c8, c9⟩ := zchm_e (show μ < zmt.length by rw [zmt_len]; exact hμ)
  refine Met.ofW (cc := zcode μ) (maxL := zmaxL μ) (ret := zret μ) c3 rfl ?_
  intro p e s m args below meth c s₁ B hml hv
  obtain ⟨rfl, hsz, hP, hK, hD0, hnw, hao, hok, hav⟩ := hv
  have hts := atoms_spec (ws := zwd μ) B.pre
  have hown : s.vm.findClass (zy μ).cls = some m.cls := findClass_of_methodNamed B.named
  have hin : (zy μ).name = "<init>" → meth.name = "<init>" := fun q => by rw [← q]; exact (name_of_methodNamed B.named B.method).1
  have C0 : zCx p s m (a.map (zcv ad)).toArray meth c D ca (va_A (zws ca ad w) sz) μ := ⟨B.exec, B.bytes, hml, B.returns, hown, B.notSynchronized, hin, hts, hnw, hao, hK, fun q hq => Or.inr (by rw [← hsz]; exact hq)⟩
  have hent := lv_entry (a.map (zcv ad)) (n := zmaxL μ) (by rw [zini_len]; exact hn)
  have h1 := h (fun q => zal_0 q) p l e s m _ below meth c D ca _ ad C0 s.heap [] _ ad ⟨hP, hD0.self, va_S.rf, hok, ?_, by simp, ⟨hent.1, hent.2.1, ?_⟩, ?_, fun _ _ => rfl⟩
  · rw [lg_entry_eq]
    have e1 : w.1.length - (zbd μ a w).1 = 0 := Nat.sub_self _
    have e2 : zsz w.1 - (zbd μ a w).2.1 = 0 := Nat.sub_self _
    dsimp only at h1
    rw [e1, e2] at h1
    exact h1
  · dsimp only
    rw [← hl]
    intro v hv
    rcases List.mem_append.mp hv with hv | hv
    · exact zini_mem trivial a hav v hv
    · rw [(List.mem_replicate.mp hv).2]; exact trivial
  · intro j v hj hne
    dsimp only at hj
    rw [← hl] at hj
    by_cases hjl : j < (zini a).length
    · rw [List.getElem?_append_left hjl] at hj
      have := zini_args (ad := ad) a 0 j v hj hne
      rw [Nat.zero_add] at this
      exact hent.2.2 _ this
    · rw [List.getElem?_append_right (by omega), List.getElem?_replicate] at hj
      split at hj
      · cases hj; exact absurd rfl hne
      · cases hj
  · show zfr (zbd μ a w) w.1
    unfold zfr zbd
    exact ⟨Nat.le_refl _, Nat.le_add_right _ _, Nat.le_refl _, Nat.le_add_right _ _⟩
