/-! a stretch of code goes as the machine does -/
theorem zrt_0 {ret : Option FieldType} (h : zrt 0 ret = true) : ret = none := by
  rcases ret with _ | t
  · rfl
  · cases t <;> exact absurd h (by simp [zrt])
theorem zrt_1 {ret : Option FieldType} (h : zrt 1 ret = true) : ret = some .int := by
  rcases ret with _ | t
  · exact absurd h (by simp [zrt])
  · cases t <;> first | rfl | exact absurd h (by simp [zrt])
theorem zrt_2 {ret : Option FieldType} (h : zrt 2 ret = true) : ret = some .long := by
  rcases ret with _ | t
  · exact absurd h (by simp [zrt])
  · cases t <;> first | rfl | exact absurd h (by simp [zrt])
theorem zrt_3 {ret : Option FieldType} (h : zrt 3 ret = true) : ∃ cn, ret = some (.object cn) := by
  rcases ret with _ | t
  · exact absurd h (by simp [zrt])
  · cases t <;> first | exact ⟨_, rfl⟩ | exact absurd h (by simp [zrt])
theorem zrt_4 {ret : Option FieldType} (h : zrt 4 ret = true) : ret = some .boolean := by
  rcases ret with _ | t
  · exact absurd h (by simp [zrt])
  · cases t <;> first | rfl | exact absurd h (by simp [zrt])
section ZR
variable {p : Program} {l : Launch} {e : Env} {s : State} {m : MethodId} {args : Array Value} {below : List Frame} {meth : Method} {c : Code} {D : va_G} {ca : Nat → ClassId} {A : Nat → Prop} {d μ : Nat} {b : zB} {ad0 : Nat → Nat} {Qs : State → Prop} {Q : Int → zW → Prop}
variable {pc : Nat} {S : zMS} {k : zMS → Prop}
theorem zs_mm {f : Int → Int → Int} {F : Int32 → Int32 → Int32} (hf : ∀ x y, zr32 x → zr32 y → Int32.ofInt (f x y) = F (Int32.ofInt x) (Int32.ofInt y) ∧ zr32 (f x y)) (hr : ∀ (H : Heap) (locs : List Loc) (cv : Array Slot) (rest : List Value) (cells slots : Nat) (x y : Int32), c.maxLocals = cv.size → (rest.map fun v => v.category).sum ≤ 8 → cells ≤ b.2.2.1 → slots ≤ b.2.2.2 → W p l e (zrm d b) s m args below meth c H locs cells slots Qs (F0 m (pc + 3) cv (.int (F x y) :: rest)) → W p l e (zrm d b) s m args below meth c H locs cells slots Qs (F0 m pc cv (.int y :: .int x :: rest)))
    (hml : c.maxLocals = zmaxL μ) (h : zmm f S k) (hk : ∀ S', k S' → zWS p l e s m args below meth c D ca A d μ b ad0 Qs (pc + 3) S') : zWS p l e s m args below meth c D ca A d μ b ad0 Qs pc S := by
  obtain ⟨ls, st, w⟩ := S
  intro H locs cv ad hs
  unfold zmm at h
  have hst := hs.2.2.2.2.2.1
  rcases st with _ | ⟨y | y | y | y, _ | ⟨x | x | x | x, st⟩⟩
  case cons.inl.cons.inl =>
    obtain ⟨h1, h2⟩ := zvo_t hst
    obtain ⟨h3, h4⟩ := zvo_t h2
    obtain ⟨h5, h6⟩ := zkb_e h
    have h5 := Nat.le_of_ble_eq_true h5
    obtain ⟨q1, q2⟩ := hf x y h3 h1
    have h8 : zfr b w.1 := hs.2.2.2.2.2.2.2.1
    unfold zfr at h8
    refine hr H locs cv _ _ _ (Int32.ofInt x) (Int32.ofInt y) (by rw [hml, hs.2.2.2.2.2.2.1.1]) (by rw [zcat_eq]; exact h5) (by show w.1.length - b.1 ≤ _; omega) (by show zsz w.1 - b.2.1 ≤ _; omega) ?_
    rw [← q1]
    exact hk _ h6 H locs cv ad (hs.stk (zvo_I q2 h4))
  all_goals exact absurd h id
theorem zmax_ok (x y : Int) (hx : zr32 x) (hy : zr32 y) : Int32.ofInt (zmax x y) = (fun x y : Int32 => if x < y then y else x) (Int32.ofInt x) (Int32.ofInt y) ∧ zr32 (zmax x y) := by
  unfold zmax
  dsimp only
  by_cases h : x < y
  · rw [if_pos ((zr32_lt hx hy).mpr h), Int.max_eq_right (by omega)]; exact ⟨rfl, hy⟩
  · rw [if_neg (fun q => h ((zr32_lt hx hy).mp q)), Int.max_eq_left (by omega)]; exact ⟨rfl, hx⟩
theorem zmin_ok (x y : Int) (hx : zr32 x) (hy : zr32 y) : Int32.ofInt (zmin x y) = (fun x y : Int32 => if y < x then y else x) (Int32.ofInt x) (Int32.ofInt y) ∧ zr32 (zmin x y) := by
  unfold zmin
  dsimp only
  by_cases h : y < x
  · rw [if_pos ((zr32_lt hy hx).mpr h), Int.min_eq_right (by omega)]; exact ⟨rfl, hy⟩
  · rw [if_neg (fun q => h ((zr32_lt hy hx).mp q)), Int.min_eq_left (by omega)]; exact ⟨rfl, hx⟩
theorem zite {c a b : Prop} [Decidable c] (h : if c then a else b) : (c → a) ∧ (¬ c → b) := by
  by_cases hc : c
  · rw [if_pos hc] at h; exact ⟨fun _ => h, fun n => absurd hc n⟩
  · rw [if_neg hc] at h; exact ⟨fun n => absurd n hc, fun _ => h⟩
/-- the world and the locals stay, the stack is a part of what it was -/
theorem zs_if {cd : ClassFile.Cond} {o : Int} {x : Int} {t : Nat} {ls st : List zV} {w : zW} {a f : Prop} (C0 : zCx p s m args meth c D ca A μ) (hdg : decode (zcode μ) pc = .ok (.ifCond cd o, 3)) (ht : (pc : Int) + o = (t : Int)) (h : zif cd x 0 a f) (ha : a → zWS p l e s m args below meth c D ca A d μ b ad0 Qs t (ls, st, w)) (hf : f → zWS p l e s m args below meth c D ca A d μ b ad0 Qs (pc + 3) (ls, st, w)) : zWS p l e s m args below meth c D ca A d μ b ad0 Qs pc (ls, zI x :: st, w) := by
  obtain ⟨hx, hb, -⟩ := C0
  intro H locs cv ad hs
  obtain ⟨h1, h2⟩ := zvo_t hs.2.2.2.2.2.1
  have h1 : zr32 x := h1
  have hs2 := hs.stk h2
  cases cd
  case eq =>
    obtain ⟨g1, g2⟩ := zite h
    exact lv_if_eq hx hb hdg ht (fun q => ha (g1 ((zr32_eq h1 zr32_0).mp q)) H locs cv ad hs2) (fun q => hf (g2 (fun z => q ((zr32_eq h1 zr32_0).mpr z))) H locs cv ad hs2)
  case ne =>
    obtain ⟨g1, g2⟩ := zite h
    exact lv_if_ne hx hb hdg ht (fun q => ha (g2 (fun z => q ((zr32_eq h1 zr32_0).mpr z))) H locs cv ad hs2) (fun q => hf (g1 ((zr32_eq h1 zr32_0).mp q)) H locs cv ad hs2)
  case lt =>
    obtain ⟨g1, g2⟩ := zite h
    exact lv_if_lt hx hb hdg ht (fun q => ha (g1 ((zr32_lt h1 zr32_0).mp q)) H locs cv ad hs2) (fun q => hf (g2 (fun z => q ((zr32_lt h1 zr32_0).mpr z))) H locs cv ad hs2)
  case ge =>
    obtain ⟨g1, g2⟩ := zite h
    exact lv_if_ge hx hb hdg ht (fun q => ha (g2 (fun z => by have := (zr32_le zr32_0 h1).mp q; omega)) H locs cv ad hs2) (fun q => hf (g1 (Int.not_le.mp (fun z => q ((zr32_le zr32_0 h1).mpr z)))) H locs cv ad hs2)
  case gt =>
    obtain ⟨g1, g2⟩ := zite h
    exact lv_if_gt hx hb hdg ht (fun q => ha (g1 ((zr32_lt zr32_0 h1).mp q)) H locs cv ad hs2) (fun q => hf (g2 (fun z => q ((zr32_lt zr32_0 h1).mpr z))) H locs cv ad hs2)
  case le =>
    obtain ⟨g1, g2⟩ := zite h
    exact lv_if_le hx hb hdg ht (fun q => ha (g2 (fun z => by have := (zr32_le h1 zr32_0).mp q; omega)) H locs cv ad hs2) (fun q => hf (g1 (Int.not_le.mp (fun z => q ((zr32_le h1 zr32_0).mpr z)))) H locs cv ad hs2)
theorem zs_icmp {cd : ClassFile.Cond} {o : Int} {x y : Int} {t : Nat} {ls st : List zV} {w : zW} {a f : Prop} (C0 : zCx p s m args meth c D ca A μ) (hdg : decode (zcode μ) pc = .ok (.if_icmp cd o, 3)) (ht : (pc : Int) + o = (t : Int)) (h : zif cd x y a f) (ha : a → zWS p l e s m args below meth c D ca A d μ b ad0 Qs t (ls, st, w)) (hf : f → zWS p l e s m args below meth c D ca A d μ b ad0 Qs (pc + 3) (ls, st, w)) : zWS p l e s m args below meth c D ca A d μ b ad0 Qs pc (ls, zI y :: zI x :: st, w) := by
  obtain ⟨hx, hb, -⟩ := C0
  intro H locs cv ad hs
  obtain ⟨hy, h2⟩ := zvo_t hs.2.2.2.2.2.1
  obtain ⟨h1, h2⟩ := zvo_t h2
  have h1 : zr32 x := h1
  have hy : zr32 y := hy
  have hs2 := hs.stk h2
  cases cd
  case eq =>
    obtain ⟨g1, g2⟩ := zite h
    exact lv_icmp_eq hx hb hdg ht (fun q => ha (g1 ((zr32_eq h1 hy).mp q)) H locs cv ad hs2) (fun q => hf (g2 (fun z => q ((zr32_eq h1 hy).mpr z))) H locs cv ad hs2)
  case ne =>
    obtain ⟨g1, g2⟩ := zite h
    exact lv_icmp_ne hx hb hdg ht (fun q => ha (g2 (fun z => q ((zr32_eq h1 hy).mpr z))) H locs cv ad hs2) (fun q => hf (g1 ((zr32_eq h1 hy).mp q)) H locs cv ad hs2)
  case lt =>
    obtain ⟨g1, g2⟩ := zite h
    exact lv_icmp_lt hx hb hdg ht (fun q => ha (g1 ((zr32_lt h1 hy).mp q)) H locs cv ad hs2) (fun q => hf (g2 (fun z => q ((zr32_lt h1 hy).mpr z))) H locs cv ad hs2)
  case ge =>
    obtain ⟨g1, g2⟩ := zite h
    exact lv_icmp_ge hx hb hdg ht (fun q => ha (g2 (fun z => by have := (zr32_le hy h1).mp q; omega)) H locs cv ad hs2) (fun q => hf (g1 (Int.not_le.mp (fun z => q ((zr32_le hy h1).mpr z)))) H locs cv ad hs2)
  case gt =>
    obtain ⟨g1, g2⟩ := zite h
    exact lv_icmp_gt hx hb hdg ht (fun q => ha (g1 ((zr32_lt hy h1).mp q)) H locs cv ad hs2) (fun q => hf (g2 (fun z => q ((zr32_lt hy h1).mpr z))) H locs cv ad hs2)
  case le =>
    obtain ⟨g1, g2⟩ := zite h
    exact lv_icmp_le hx hb hdg ht (fun q => ha (g2 (fun z => by have := (zr32_le h1 hy).mp q; omega)) H locs cv ad hs2) (fun q => hf (g1 (Int.not_le.mp (fun z => q ((zr32_le h1 hy).mpr z)))) H locs cv ad hs2)
/-- which offset a switch takes -/
theorem ztsw_e {J : Nat → Prop} {x dflt : Int} : ∀ (offs : List Int) (lo : Int), ztsw J pc x dflt lo offs → ((x < lo ∨ lo + offs.length ≤ x) ∧ J ((pc : Int) + dflt).toNat) ∨ ∃ o, lo ≤ x ∧ x < lo + offs.length ∧ offs[(x - lo).toNat]? = some o ∧ J ((pc : Int) + o).toNat
  | [], lo, h => Or.inl ⟨by simp; omega, h⟩
  | o :: os, lo, h => by
    unfold ztsw at h
    obtain ⟨g1, g2⟩ := zite h
    by_cases hx : x = lo
    · subst hx
      exact Or.inr ⟨o, by omega, by simp; omega, by simp, g1 rfl⟩
    · rcases ztsw_e os (lo + 1) (g2 hx) with ⟨h1, h2⟩ | ⟨o', h1, h2, h3, h4⟩
      · refine Or.inl ⟨?_, h2⟩
        simp
        omega
      · refine Or.inr ⟨o', by omega, by simp; omega, ?_, h4⟩
        rw [show (x - lo).toNat = (x - (lo + 1)).toNat + 1 by omega]
        exact h3
theorem zs_tsw {dflt lo hi : Int} {offs : Array Int} {x : Int} {ls st : List zV} {w : zW} {J : Nat → Prop} (C0 : zCx p s m args meth c D ca A μ) (hdg : decode (zcode μ) pc = .ok (.tableswitch dflt lo hi offs, 33)) (hhi : hi = lo + offs.toList.length - 1) (h0 : 0 ≤ (pc : Int) + dflt) (h1 : ∀ o ∈ offs.toList, 0 ≤ (pc : Int) + o) (h : ztsw J pc x dflt lo offs.toList) (ha : ∀ t, J t → zWS p l e s m args below meth c D ca A d μ b ad0 Qs t (ls, st, w)) : zWS p l e s m args below meth c D ca A d μ b ad0 Qs pc (ls, zI x :: st, w) := by
  obtain ⟨hx, hb, -⟩ := C0
  intro H locs cv ad hs
  obtain ⟨hx1, h2⟩ := zvo_t hs.2.2.2.2.2.1
  have hx1 : zr32 x := hx1
  have hs2 := hs.stk h2
  rcases ztsw_e _ _ h with ⟨g1, g2⟩ | ⟨o, g1, g2, g3, g4⟩
  · exact lv_tableOut hx hb hdg (by rw [zr32_t hx1]; omega) (tgt := ((pc : Int) + dflt).toNat) (by omega) (ha _ g2 H locs cv ad hs2)
  · refine lv_tableIn hx hb hdg (by rw [zr32_t hx1]; omega) (by rw [zr32_t hx1]; omega) (off := o) ?_ (tgt := ((pc : Int) + o).toNat) ?_ (ha _ g4 H locs cv ad hs2)
    · rw [zr32_t hx1, ← Array.getElem?_toList]
      exact g3
    · have := h1 o (List.mem_of_getElem? g3)
      omega
/-- the end -/
theorem zend_e {b : zB} {S : zMS} {k : Prop} (h : zend b S k) (hb : b.2.2.1 = 0 → b.2.2.2 = 0) (hf : zfr b S.2.2.1) : k ∧ S.2.2.1.length = b.1 + b.2.2.1 ∧ zsz S.2.2.1 = b.2.1 + b.2.2.2 := by
  unfold zfr at hf
  unfold zend at h
  split at h
  · next h0 =>
    have := hb h0
    exact ⟨h, by omega, by omega⟩
  · obtain ⟨h1, h2⟩ := zck_e h
    exact ⟨h2, h1⟩
theorem zQ_at {rk : Nat} {r : Int} {ls st : List zV} {w : zW} {H : Heap} {locs : List Loc} {cv : Array Slot} {ad : Nat → Nat} {nL : Nat} (hs : zst D ca A s b ad0 nL H locs cv ad (ls, st, w)) (hq : Q r w) (hr : zro rk w.1.length r) (h1 : w.1.length = b.1 + b.2.2.1) (h2 : zsz w.1 = b.2.1 + b.2.2.2) : ∀ t : State, t.heap = H → s.WarmedH t.vm → zPo D ca A b ad0 rk Q args s (.returned (zrv rk ad r)) t := by
  intro t ht hW
  exact ⟨⟨r, w, ad, rfl, hq, hr, by rw [ht]; exact hs.1, hs.2.1, hs.2.2.2.1, h1, h2, hs.2.2.2.2.2.2.2.2⟩, hs.2.2.1.F ht⟩
theorem zarg_split {n : Nat} {st : List zV} {ad : Nat → Nat} : st.map (zcv ad) = ((st.take n).reverse.map (zcv ad)).reverse ++ (st.drop n).map (zcv ad) := by
  rw [List.map_reverse, List.reverse_reverse, ← List.map_append, List.take_append_drop]
/-- a call -/
theorem zs_cal {r : List Nat} {op idx : Nat} {ins : Instr} (hop : op = 0 ∧ ins = .invokevirtual idx ∨ op = 1 ∧ ins = .invokestatic idx ∨ op = 2 ∧ ins = .invokespecial idx) (C0 : zCx p s m args meth c D ca A μ) (hdg : decode (zcode μ) pc = .ok (ins, 3)) (hch : zchi μ idx r op = true) (h5 : r.getD 2 0 ≠ 5) (h6 : r.getD 2 0 ≠ 6) (h7 : r.getD 2 0 ≠ 7)
    (h : zcal b (zEv d) (r.getD 0 0) (r.getD 2 0) (r.getD 3 0) (r.getD 4 0) (r.getD 5 0) S k) (hk : ∀ S', k S' → zWS p l e s m args below meth c D ca A (d + 1) μ b ad0 Qs (pc + 3) S') : zWS p l e s m args below meth c D ca A (d + 1) μ b ad0 Qs pc S := by
  obtain ⟨hx, hb, hml, hr, hown, hlocks, hin, hts, hnw, hao, hK, hA⟩ := C0
  obtain ⟨ls, st, w⟩ := S
  intro H locs cv ad hs
  have h8 : zfr b w.1 := hs.2.2.2.2.2.2.2.1
  have hst : ∀ v ∈ st, zvo w.1.length v := hs.2.2.2.2.2.1
  unfold zcal at h
  dsimp only at h
  have ha1 := zrcv_e h
  clear h
  have ha2 := zkb_e ha1.1
  have ha4 := ha2.1
  rw [Bool.and_eq_true] at ha4
  have ha3 := zbud_e ha2.2 zal_0 h8
  have h := ha3.1
  have hrc := ha1.2.1
  have hrc2 := ha1.2.2
  have hroom := Nat.le_of_ble_eq_true ha4.2
  have hsl := Nat.le_of_ble_eq_true ha4.1
  have hbc := ha3.2.1
  have hbs := ha3.2.2
  clear ha1 ha2 ha3 ha4
  unfold zfr at h8
  unfold zchi at hch
  rw [if_neg h5, if_neg h6, if_neg h7] at hch
  obtain ⟨hch, hkind⟩ := zat_e2 hch
  obtain ⟨hch, hn⟩ := zat_e2 hch
  obtain ⟨hlt, hrk⟩ := zat_e2 hch
  have hlt : r.getD 0 0 < zmt.length := of_decide_eq_true hlt
  have hrk : r.getD 4 0 = zrk (r.getD 0 0) := of_decide_eq_true hrk
  have hn : r.getD 3 0 = zrow (r.getD 0 0) 1 := of_decide_eq_true hn
  generalize hμ : r.getD 0 0 = μ' at *
  generalize hkd : r.getD 2 0 = kd at *
  generalize hnn : r.getD 3 0 = n at *
  generalize hrr : r.getD 4 0 = rk at *
  generalize ha : (st.take n).reverse = a at *
  have hav : ∀ v ∈ a, zvo w.1.length v := fun v hv => hst v (List.mem_of_mem_take (by rw [← ha] at hv; exact List.mem_reverse.mp hv))
  have hdv : ∀ v ∈ st.drop n, zvo w.1.length v := fun v hv => hst v (List.mem_of_mem_drop hv)
  have hstk : st.map (zcv ad) = (a.map (zcv ad)).reverse ++ (st.drop n).map (zcv ad) := by rw [← ha]; exact zarg_split
  obtain ⟨c1, c2, c3, c4, c5, c6, c7, c8, c9⟩ := zchm_e hlt
  -- what is behind the call, for every kind of answer
  obtain ⟨Q', hEv, hQ'⟩ : ∃ Q' : Int → zW → Prop, zEv d μ' a w Q' ∧ ∀ (x : Int) (w' : zW) (ad' : Nat → Nat), Q' x w' → zro rk w'.1.length x → ∃ vs : List zV, (zrv rk ad' x).toList = vs.map (zcv ad') ∧ (∀ v ∈ vs, zvo w'.1.length v) ∧ k (ls, vs ++ st.drop n, w') := by
    split at h
    · exact ⟨_, h, fun x w' ad' q1 q2 => ⟨[], rfl, by simp, q1⟩⟩
    · exact ⟨_, h, fun x w' ad' q1 q2 => ⟨[zL x], rfl, fun v hv => by rw [List.mem_singleton.mp hv]; exact q2, q1⟩⟩
    · exact ⟨_, h, fun x w' ad' q1 q2 => ⟨[zR x.toNat], rfl, fun v hv => by rw [List.mem_singleton.mp hv]; exact q2, q1⟩⟩
    · next n0 n2 n3 =>
      refine ⟨_, h, fun x w' ad' q1 q2 => ⟨[zI x], ?_, fun v hv => ?_, q1⟩⟩
      · unfold zrv
        split
        · exact absurd rfl n0
        · exact absurd rfl n2
        · exact absurd rfl n3
        · rfl
      · rw [List.mem_singleton.mp hv]
        unfold zro at q2
        split at q2
        · exact absurd rfl n0
        · exact absurd rfl n2
        · exact absurd rfl n3
        · exact q2
  have hM := hEv l D ca ad H.size
  have behind : ∀ (av : Array Value), va_Run p l e (zrm (d + 1) b) s m args below meth c H locs (w.1.length - b.1) (zsz w.1 - b.2.1) (zal μ' a).1 (zal μ' a).2 (F0 m pc cv (st.map (zcv ad))) ((st.drop n).map (zcv ad)) (zPo D ca (va_A (zws ca ad w) H.size) (zbd μ' a w) ad (zrk μ') Q' av) (va_A (zws ca ad w) H.size) → W p l e (zrm (d + 1) b) s m args below meth c H locs (w.1.length - b.1) (zsz w.1 - b.2.1) Qs (F0 m pc cv (st.map (zcv ad))) := by
    intro av hrun
    refine zcb (ls := ls) hrun rfl hA hs.1 hs.2.1 hs.2.2.1 (fun x w' ad' H1 locs1 q1 q2 q3 q4 q5 q6 q7 q8 q9 => ?_)
    have q6 : w'.1.length = w.1.length + (zal μ' a).1 := q6
    have q7 : zsz w'.1 = zsz w.1 + (zal μ' a).2 := q7
    have q8 : ∀ k, k < w.1.length → ad' k = ad k := q8
    rw [← hrk] at q2 ⊢
    obtain ⟨vs, v1, v2, v3⟩ := hQ' x w' ad' q1 q2
    have hup : ∀ v : zV, zvo w.1.length v → zvo w'.1.length v ∧ zcv ad' v = zcv ad v := by
      intro v hv
      rcases v with y | y | y | y
      · exact ⟨hv, rfl⟩
      · exact ⟨hv, rfl⟩
      · have hv : y < w.1.length := hv
        exact ⟨by show y < w'.1.length; omega, by show Value.ref (ad' y) = Value.ref (ad y); rw [q8 y hv]⟩
      · exact ⟨trivial, rfl⟩
    have e1 := hk _ v3 H1 locs1 cv ad' ⟨q3, q4, q9, q5, fun v hv => (hup v (hs.2.2.2.2.1 v hv)).1, fun v hv => by
      rcases List.mem_append.mp hv with hv | hv
      · exact v2 v hv
      · exact (hup v (hdv v hv)).1, ⟨hs.2.2.2.2.2.2.1.1, hs.2.2.2.2.2.2.1.2.1, fun j v hj hn => by
        rw [(hup v (hs.2.2.2.2.1 v (List.mem_of_getElem? hj))).2]
        exact hs.2.2.2.2.2.2.1.2.2 j v hj hn⟩, by
      show zfr b w'.1
      unfold zfr
      omega, fun k hk => by rw [q8 k (by omega)]; exact hs.2.2.2.2.2.2.2.2 k hk⟩
    dsimp only at e1
    rw [List.map_append, ← v1, List.map_congr_left (fun v hv => (hup v (hdv v hv)).2)] at e1
    rw [show w'.1.length - b.1 = w.1.length - b.1 + (zal μ' a).1 by omega, show zsz w'.1 - b.2.1 = zsz w.1 - b.2.1 + (zal μ' a).2 by omega] at e1
    exact e1
  have hroom2 : 2 * (F0 m pc cv (st.map (zcv ad))).monitorRoom + (((st.drop n).map (zcv ad)).map fun v => v.category).sum ≤ 8 := lv_room (by rw [zcat_eq]; exact hroom)
  have hR : (zrm d (zbd μ' a w)).frames + 1 ≤ (zrm (d + 1) b).frames ∧ 8 + (zmaxL μ' + 11) + (zrm d (zbd μ' a w)).locals ≤ (zrm (d + 1) b).locals := by
    show d + 1 ≤ d + 1 ∧ 8 + (zmaxL μ' + 11) + 200 * d ≤ 200 * (d + 1)
    omega
  have hfit : w.1.length - b.1 + (zal μ' a).1 ≤ (zrm (d + 1) b).cells ∧ zsz w.1 - b.2.1 + (zal μ' a).2 ≤ (zrm (d + 1) b).slots := by
    show w.1.length - b.1 + (zal μ' a).1 ≤ b.2.2.1 ∧ zsz w.1 - b.2.1 + (zal μ' a).2 ≤ b.2.2.2
    omega
  have hfix : CallFix p m c (zcode μ) (zmaxL μ) s args (zwd μ) (zy μ).cls := ⟨hx, hb, hml, hown, hts⟩
  have hini : (Jvm.Cond.initialized (zy μ').cls).before args s = true := hts _ (zwd_in c2)
  have hlen : a.length = n := by rw [← ha, List.length_reverse, List.length_take]; omega
  split at hkind
  · -- virtual
    obtain ⟨hkind, k1⟩ := zat_e2 hkind
    obtain ⟨hkind, k2⟩ := zat_e2 hkind
    obtain ⟨hkind, k3⟩ := zat_e2 hkind
    obtain ⟨k4, k5⟩ := zat_e2 hkind
    have k1 : (vwCl[r.getD 5 0]?).map (fun q => q.1) = some (zy μ').cls := of_decide_eq_true k1
    have k2 : (zy μ').name ≠ "<init>" := of_decide_eq_true k2
    have k3 : zrow μ' 7 = 0 := of_decide_eq_true k3
    have k4 : op = 0 := of_decide_eq_true k4
    obtain ⟨i1, i2, i3, i4⟩ := c8 k3
    obtain ⟨rr, as, rfl, hkr⟩ := hrc rfl
    have hrl : rr < w.1.length := hav (zR rr) List.mem_cons_self
    have hins : ins = .invokevirtual idx := by rcases hop with h | h | h <;> first | exact h.2 | (exfalso; omega)
    subst hins
    cases hq : vwCl[r.getD 5 0]? with
    | none => rw [hq] at k1; cases k1
    | some q0 =>
      rw [hq] at k1
      obtain ⟨C, T, N⟩ := q0
      have hC : C = (zy μ').cls := Option.some.inj k1
      subst hC
      have hci := zci_lt hq
      have hasl : as.length = zrow μ' 1 - 1 := by
        have : (zR rr :: as).length = as.length + 1 := rfl
        omega
      refine behind _ (va_runV (C := (zy μ').cls) (b := ad rr) (As := as.map (zcv ad)) (n := zrow μ' 1 - 1) hfix hM ⟨callB_of (zrow μ' 1 - 1) hts (zgood hlt) rfl rfl rfl hini (hts _ (zwd_in (zat_e k5))) ⟨c4.1, c4.2, i3⟩ hR, hts _ (zwd_in i1), hts _ (zwd_in (i2 k2))⟩ ⟨zPr_blind, va_recv hK hs.1 hq (q0 := rr) (fs := (List.range (znf (r.getD 5 0))).map (zfv ad w.1 w.2.1 (r.getD 5 0) rr)) (by rw [zws_at hrl, zce_obj hkr (by omega)]), zPr_at (a := zR rr :: as) hnw hao hK hs.1 hs.2.1 hs.2.2.2.1 hav⟩ rfl (by rw [List.length_map, hasl]) hs.2.2.2.2.2.2.1.1 ?_ hroom2 hdg hfit)
      rw [hstk]
      simp [zcv]
  · -- static
    obtain ⟨hkind, k3⟩ := zat_e2 hkind
    obtain ⟨k4, k5⟩ := zat_e2 hkind
    have k3 : zrow μ' 7 = 1 := of_decide_eq_true k3
    have k4 : op = 1 := of_decide_eq_true k4
    obtain ⟨i1, i2⟩ := c9 k3
    have hins : ins = .invokestatic idx := by rcases hop with h | h | h <;> first | exact h.2 | (exfalso; omega)
    subst hins
    exact behind _ (va_runS (As := a.map (zcv ad)) (n := zrow μ' 1) hfix hM ⟨callB_of (zrow μ' 1) hts (zgood hlt) rfl rfl rfl hini (hts _ (zwd_in (zat_e k5))) ⟨c4.1, c4.2, i2⟩ hR, hts _ (zwd_in i1)⟩ ⟨zPr_blind, zPr_at hnw hao hK hs.1 hs.2.1 hs.2.2.2.1 hav⟩ rfl (by rw [List.length_map]; omega) hs.2.2.2.2.2.2.1.1 hstk hroom2 hdg hfit)
  · -- a constructor
    obtain ⟨hkind, k2⟩ := zat_e2 hkind
    obtain ⟨hkind, k3⟩ := zat_e2 hkind
    obtain ⟨k4, k5⟩ := zat_e2 hkind
    have k2 : (zy μ').name = "<init>" := of_decide_eq_true k2
    have k3 : zrow μ' 7 = 0 := of_decide_eq_true k3
    have k4 : op = 2 := of_decide_eq_true k4
    obtain ⟨i1, i2, i3, i4⟩ := c8 k3
    have hins : ins = .invokespecial idx := by rcases hop with h | h | h <;> first | exact h.2 | (exfalso; omega)
    subst hins
    have hnone : zret μ' = none := by
      have := c7 k2
      rw [this] at c6
      exact zrt_0 c6
    obtain ⟨rr, as, rfl⟩ := hrc2 (by decide) (by decide)
    · have hv0 := hav (zR rr) List.mem_cons_self
      refine behind _ (va_runI (b := ad rr) (As := as.map (zcv ad)) (n := zrow μ' 1 - 1) hfix hM ⟨by rw [← hnone]; exact callB_of (zrow μ' 1 - 1) hts (zgood hlt) rfl rfl rfl hini (hts _ (zwd_in (zat_e k5))) ⟨c4.1, c4.2, i3⟩ hR, k2, hts _ (zwd_in i1)⟩ ⟨zPr_blind, zPr_at (a := zR rr :: as) hnw hao hK hs.1 hs.2.1 hs.2.2.2.1 hav⟩ rfl (by rw [List.length_map]; simp at hlen; omega) hs.2.2.2.2.2.2.1.1 ?_ hroom2 hdg hfit)
      rw [hstk]
      simp [zcv]
  · -- static, of a nest mate
    obtain ⟨hkind, k3⟩ := zat_e2 hkind
    obtain ⟨k4, k5⟩ := zat_e2 hkind
    have k3 : zrow μ' 7 = 1 := of_decide_eq_true k3
    have k4 : op = 1 := of_decide_eq_true k4
    have k5 := of_decide_eq_true k5
    obtain ⟨i1, i2⟩ := c9 k3
    have hins : ins = .invokestatic idx := by rcases hop with h | h | h <;> first | exact h.2 | (exfalso; omega)
    subst hins
    exact behind _ (va_runSN (As := a.map (zcv ad)) (n := zrow μ' 1) hfix hM ⟨va_cnB (zrow μ' 1) hts (zgood hlt) rfl rfl rfl (hnw _ (List.mem_filter.mpr ⟨ztb_in k5, rfl⟩)) hini ⟨c4.1, c4.2, i2⟩ hR, hts _ (zwd_in i1), trivial⟩ ⟨zPr_blind, zPr_at hnw hao hK hs.1 hs.2.1 hs.2.2.2.1 hav⟩ rfl (by rw [List.length_map]; omega) hs.2.2.2.2.2.2.1.1 hstk hroom2 hdg hfit)
  · -- a constructor, of a nest mate
    obtain ⟨hkind, k2⟩ := zat_e2 hkind
    obtain ⟨hkind, k3⟩ := zat_e2 hkind
    obtain ⟨k4, k5⟩ := zat_e2 hkind
    have k2 : (zy μ').name = "<init>" := of_decide_eq_true k2
    have k3 : zrow μ' 7 = 0 := of_decide_eq_true k3
    have k4 : op = 2 := of_decide_eq_true k4
    have k5 := of_decide_eq_true k5
    obtain ⟨i1, i2, i3, i4⟩ := c8 k3
    have hins : ins = .invokespecial idx := by rcases hop with h | h | h <;> first | exact h.2 | (exfalso; omega)
    subst hins
    have hnone : zret μ' = none := by
      have := c7 k2
      rw [this] at c6
      exact zrt_0 c6
    obtain ⟨rr, as, rfl⟩ := hrc2 (by decide) (by decide)
    · have hv0 := hav (zR rr) List.mem_cons_self
      refine behind _ (va_runIN (b := ad rr) (As := as.map (zcv ad)) (n := zrow μ' 1 - 1) hfix hM ⟨by rw [← hnone]; exact va_cnB (zrow μ' 1 - 1) hts (zgood hlt) rfl rfl rfl (hnw _ (List.mem_filter.mpr ⟨ztb_in k5, rfl⟩)) hini ⟨c4.1, c4.2, i3⟩ hR, k2, hts _ (zwd_in i1)⟩ ⟨zPr_blind, zPr_at (a := zR rr :: as) hnw hao hK hs.1 hs.2.1 hs.2.2.2.1 hav⟩ rfl (by rw [List.length_map]; simp at hlen; omega) hs.2.2.2.2.2.2.1.1 ?_ hroom2 hdg hfit)
      rw [hstk]
      simp [zcv]
  · cases hkind
/-- a stretch of code, over any ends of its jumps that the machine comes to -/
theorem zbr_ok {J : Nat → zMS → Prop} (hbb : b.2.2.1 = 0 → b.2.2.2 = 0) (hμ : μ < zmt.length) (C0 : zCx p s m args meth c D ca A μ) (hJ : ∀ pc S, J pc S → zWS p l e s m args below meth c D ca A (d + 1) μ b ad0 (MQ below (zPo D ca A b ad0 (zrk μ) Q) args s b.2.2.1 b.2.2.2 A) pc S) : ∀ (is : List zIns) (pc : Nat) (S : zMS), zchb μ pc is = true → zbr b (zEv d) J Q (zrk μ) is pc S → zWS p l e s m args below meth c D ca A (d + 1) μ b ad0 (MQ below (zPo D ca A b ad0 (zrk μ) Q) args s b.2.2.1 b.2.2.2 A) pc S
  | [], pc, S, _, h => hJ pc S h
  | i :: is, pc, S, hch, h => by
    obtain ⟨hx, hb, hml, hr, hown, hlocks, hin, hts, hnw, hao, hK, hA⟩ := id C0
    unfold zchb at hch
    obtain ⟨hc1, hc2⟩ := zat_e2 hch
    obtain ⟨hd, hc3⟩ := zdec hc1
    have ih := fun S => zbr_ok hbb hμ C0 hJ is (pc + zlen i.1) S hc2
    obtain ⟨ls, st, w⟩ := S
    obtain ⟨ins, r⟩ := i
    obtain ⟨-, -, -, -, -, c6, -, -, -⟩ := zchm_e hμ
    have hin6 : Jvm.Cond.initialized "java/lang/Math" ∈ zwd μ := zwd_in ⟨ztb_in (i := 54) (by decide +kernel), rfl⟩
    cases ins
    case goto o =>
      intro H locs cv ad hs
      exact lv_goto hx hb hd (of_decide_eq_true hc3) (hJ _ _ h H locs cv ad hs)
    case ifCond cd o =>
      rcases st with _ | ⟨x | x | x | x, st⟩
      case cons.inl => exact zs_if C0 hd (of_decide_eq_true hc3) h (hJ _ _) (ih _)
      all_goals exact absurd h id
    case if_icmp cd o =>
      rcases st with _ | ⟨y | y | y | y, _ | ⟨x | x | x | x, st⟩⟩
      case cons.inl.cons.inl => exact zs_icmp C0 hd (of_decide_eq_true hc3) h (hJ _ _) (ih _)
      all_goals exact absurd h id
    case tableswitch d0 lo hi offs =>
      rcases st with _ | ⟨x | x | x | x, st⟩
      case cons.inl =>
        obtain ⟨k1, k2⟩ := zat_e2 hc3
        obtain ⟨k1, k3⟩ := zat_e2 k1
        exact zs_tsw C0 hd (of_decide_eq_true k1) (of_decide_eq_true k3) (fun o ho => of_decide_eq_true (List.all_eq_true.mp k2 o ho)) h (fun t ht => hJ t _ ht)
      all_goals exact absurd h id
    case ireturn =>
      rcases st with _ | ⟨x | x | x | x, _ | ⟨y, st⟩⟩
      case cons.inl.nil =>
        intro H locs cv ad hs
        have hv : zr32 x := hs.2.2.2.2.2.1 (zI x) List.mem_cons_self
        have h : (match zrk μ with
          | 1 => zend b (ls, [zI x], w) (Q x w)
          | 4 => zend b (ls, [zI x], w) (zbl x (fun x => Q x w))
          | _ => False) := h
        split at h
        · next hk1 =>
          obtain ⟨g1, g2, g3⟩ := zend_e h hbb hs.2.2.2.2.2.2.2.1
          dsimp only at g2 g3
          have hret : zret μ = some .int := zrt_1 (by rw [hk1] at c6; exact c6)
          have hq := zQ_at (args := args) (rk := zrk μ) hs g1 (by rw [hk1]; exact hv) g2 g3
          rw [hk1] at hq ⊢
          have e1 := W.iret (p := p) (l := l) (e := e) (R := zrm (d + 1) b) (m := m) (below := below) (cells := w.1.length - b.1) (slots := zsz w.1 - b.2.1) (v := Int32.ofInt x) (free := A) hx hb (by rw [hr, hret]) hq hs.2.2.1.2.2 (ls := cv) hd
          rw [show w.1.length - b.1 = b.2.2.1 by omega, show zsz w.1 - b.2.1 = b.2.2.2 by omega] at e1
          show W p l e (zrm (d + 1) b) s m args below meth c H locs (w.1.length - b.1) (zsz w.1 - b.2.1) _ _
          rw [show w.1.length - b.1 = b.2.2.1 by omega, show zsz w.1 - b.2.1 = b.2.2.2 by omega]
          exact e1
        · next hk1 =>
          obtain ⟨g1, g2, g3⟩ := zend_e h hbb hs.2.2.2.2.2.2.2.1
          obtain ⟨g4, g1⟩ := zbl_e g1
          dsimp only at g2 g3
          have hret : zret μ = some .boolean := zrt_4 (by rw [hk1] at c6; exact c6)
          have hq := zQ_at (args := args) (rk := zrk μ) hs g1 (by rw [hk1]; exact hv) g2 g3
          rw [hk1] at hq ⊢
          have e1 := W.zret (p := p) (l := l) (e := e) (R := zrm (d + 1) b) (m := m) (below := below) (cells := w.1.length - b.1) (slots := zsz w.1 - b.2.1) (v := Int32.ofInt x) (free := A) hx hb (by rw [hr, hret]) (by rcases g4 with rfl | rfl <;> rfl) hq hs.2.2.1.2.2 (ls := cv) hd
          rw [show w.1.length - b.1 = b.2.2.1 by omega, show zsz w.1 - b.2.1 = b.2.2.2 by omega] at e1
          show W p l e (zrm (d + 1) b) s m args below meth c H locs (w.1.length - b.1) (zsz w.1 - b.2.1) _ _
          rw [show w.1.length - b.1 = b.2.2.1 by omega, show zsz w.1 - b.2.1 = b.2.2.2 by omega]
          exact e1
        · exact absurd h id
      all_goals exact absurd h id
    case lreturn =>
      rcases st with _ | ⟨x | x | x | x, _ | ⟨y, st⟩⟩
      case cons.inr.inl.nil =>
        intro H locs cv ad hs
        have hv : zr64 x := hs.2.2.2.2.2.1 (zL x) List.mem_cons_self
        have h : (match zrk μ with
          | 2 => zend b (ls, [zL x], w) (Q x w)
          | _ => False) := h
        split at h
        · next hk1 =>
          obtain ⟨g1, g2, g3⟩ := zend_e h hbb hs.2.2.2.2.2.2.2.1
          dsimp only at g2 g3
          have hret : zret μ = some .long := zrt_2 (by rw [hk1] at c6; exact c6)
          have hq := zQ_at (args := args) (rk := zrk μ) hs g1 (by rw [hk1]; exact hv) g2 g3
          rw [hk1] at hq ⊢
          have e1 := W.lret (p := p) (l := l) (e := e) (R := zrm (d + 1) b) (m := m) (below := below) (cells := w.1.length - b.1) (slots := zsz w.1 - b.2.1) (v := Int64.ofInt x) (free := A) hx hb (by rw [hr, hret]) hq hs.2.2.1.2.2 (ls := cv) hd
          rw [show w.1.length - b.1 = b.2.2.1 by omega, show zsz w.1 - b.2.1 = b.2.2.2 by omega] at e1
          show W p l e (zrm (d + 1) b) s m args below meth c H locs (w.1.length - b.1) (zsz w.1 - b.2.1) _ _
          rw [show w.1.length - b.1 = b.2.2.1 by omega, show zsz w.1 - b.2.1 = b.2.2.2 by omega]
          exact e1
        · exact absurd h id
      all_goals exact absurd h id
    case areturn =>
      rcases st with _ | ⟨x | x | x | x, _ | ⟨y, st⟩⟩
      case cons.inr.inr.inl.nil =>
        intro H locs cv ad hs
        have hv : x < w.1.length := hs.2.2.2.2.2.1 (zR x) List.mem_cons_self
        have h : (match zrk μ with
          | 3 => zend b (ls, [zR x], w) (Q (x : Int) w)
          | _ => False) := h
        split at h
        · next hk1 =>
          obtain ⟨g1, g2, g3⟩ := zend_e h hbb hs.2.2.2.2.2.2.2.1
          dsimp only at g2 g3
          obtain ⟨cn, hret⟩ : ∃ cn, zret μ = some (.object cn) := zrt_3 (by rw [hk1] at c6; exact c6)
          have hq := zQ_at (args := args) (rk := zrk μ) hs g1 (by rw [hk1]; exact hv) g2 g3
          rw [hk1] at hq ⊢
          have e1 := W.aret (p := p) (l := l) (e := e) (R := zrm (d + 1) b) (m := m) (below := below) (cells := w.1.length - b.1) (slots := zsz w.1 - b.2.1) (v := .ref (ad x)) (free := A) hx hb (by rw [hr, hret]) (Or.inl ⟨_, rfl⟩) (Or.inr ⟨_, rfl⟩) hq hs.2.2.1.2.2 (ls := cv) hd
          rw [show w.1.length - b.1 = b.2.2.1 by omega, show zsz w.1 - b.2.1 = b.2.2.2 by omega] at e1
          show W p l e (zrm (d + 1) b) s m args below meth c H locs (w.1.length - b.1) (zsz w.1 - b.2.1) _ _
          rw [show w.1.length - b.1 = b.2.2.1 by omega, show zsz w.1 - b.2.1 = b.2.2.2 by omega]
          exact e1
        · exact absurd h id
      all_goals exact absurd h id
    case return_ =>
      rcases st with _ | ⟨x, st⟩
      case nil =>
        intro H locs cv ad hs
        have h : (match zrk μ with
          | 0 => zend b (ls, [], w) (Q 0 w)
          | _ => False) := h
        split at h
        · next hk1 =>
          obtain ⟨g1, g2, g3⟩ := zend_e h hbb hs.2.2.2.2.2.2.2.1
          dsimp only at g2 g3
          have hret : zret μ = none := zrt_0 (by rw [hk1] at c6; exact c6)
          have hq := zQ_at (args := args) (rk := zrk μ) hs g1 (by rw [hk1]; exact trivial) g2 g3
          rw [hk1] at hq ⊢
          have e1 := W.vret (p := p) (l := l) (e := e) (R := zrm (d + 1) b) (m := m) (below := below) (cells := w.1.length - b.1) (slots := zsz w.1 - b.2.1) (free := A) hx hb (by rw [hr, hret]) hq hs.2.2.1.2.2 (ls := cv) hd
          rw [show w.1.length - b.1 = b.2.2.1 by omega, show zsz w.1 - b.2.1 = b.2.2.2 by omega] at e1
          show W p l e (zrm (d + 1) b) s m args below meth c H locs (w.1.length - b.1) (zsz w.1 - b.2.1) _ _
          rw [show w.1.length - b.1 = b.2.2.1 by omega, show zsz w.1 - b.2.1 = b.2.2.2 by omega]
          exact e1
        · exact absurd h id
      all_goals exact absurd h id
    case invokevirtual n =>
      have hk5 : r.getD 2 0 ≠ 5 := by
        intro q
        have hc3 : zchi μ n r 0 = true := hc3
        unfold zchi at hc3
        rw [if_pos q] at hc3
        exact absurd (of_decide_eq_true (zat_e2 hc3).1) (by decide)
      have hk6 : r.getD 2 0 ≠ 6 := by
        intro q
        have hc3 : zchi μ n r 0 = true := hc3
        unfold zchi at hc3
        rw [if_neg hk5, if_pos q] at hc3
        exact absurd (of_decide_eq_true (zat_e2 hc3).1) (by decide)
      have hk7 : r.getD 2 0 ≠ 7 := by
        intro q
        have hc3 : zchi μ n r 0 = true := hc3
        unfold zchi at hc3
        rw [if_neg hk5, if_neg hk6, if_pos q] at hc3
        exact absurd (of_decide_eq_true (zat_e2 hc3).1) (by decide)
      exact zs_cal (Or.inl ⟨rfl, rfl⟩) C0 hd hc3 hk5 hk6 hk7 h ih
    case invokestatic n =>
      have hk5 : r.getD 2 0 ≠ 5 := by
        intro q
        have hc3 : zchi μ n r 1 = true := hc3
        unfold zchi at hc3
        rw [if_pos q] at hc3
        exact absurd (of_decide_eq_true (zat_e2 hc3).1) (by decide)
      have h : (match r.getD 2 0 with
        | 6 => zmm zmax (ls, st, w) (fun S => zbr b (zEv d) J Q (zrk μ) is (pc + 3) S)
        | 7 => zmm zmin (ls, st, w) (fun S => zbr b (zEv d) J Q (zrk μ) is (pc + 3) S)
        | _ => zcal b (zEv d) (r.getD 0 0) (r.getD 2 0) (r.getD 3 0) (r.getD 4 0) (r.getD 5 0) (ls, st, w) (fun S => zbr b (zEv d) J Q (zrk μ) is (pc + 3) S)) := h
      split at h
      · next hk6 =>
        have hc3 : zchi μ n r 1 = true := hc3
        unfold zchi at hc3
        rw [if_neg hk5, if_pos hk6] at hc3
        have hl := hts _ (zwd_in (zat_e (zat_e2 hc3).2))
        have hw1 : Jvm.Cond.static Lib.Math.max.name ∈ zwd μ := zwd_in ⟨ztb_in (i := 99) (by decide +kernel), rfl⟩
        have hw2 : Jvm.Cond.code Lib.Math.max.name Lib.Math.max.code 2 (some .int) ∈ zwd μ := zwd_in ⟨ztb_in (i := 100) (by decide +kernel), rfl⟩
        exact zs_mm (F := fun x y => if x < y then y else x) zmax_ok (fun H locs cv rest cells slots x y q1 q2 q3 q4 w => va_mmax hx hb q1 hown hl (hts _ hw1) (hts _ hin6) (hts _ hw2) (by show 1 ≤ d + 1; omega) (by show _ ≤ 200 * (d + 1); omega) q3 q4 hd w) hml h ih
      · next hk6 =>
        have hc3 : zchi μ n r 1 = true := hc3
        unfold zchi at hc3
        rw [if_neg hk5, if_neg (by omega), if_pos hk6] at hc3
        have hl := hts _ (zwd_in (zat_e (zat_e2 hc3).2))
        have hw1 : Jvm.Cond.static Lib.Math.min.name ∈ zwd μ := zwd_in ⟨ztb_in (i := 354) (by decide +kernel), rfl⟩
        have hw2 : Jvm.Cond.code Lib.Math.min.name Lib.Math.min.code 2 (some .int) ∈ zwd μ := zwd_in ⟨ztb_in (i := 355) (by decide +kernel), rfl⟩
        exact zs_mm (F := fun x y => if y < x then y else x) zmin_ok (fun H locs cv rest cells slots x y q1 q2 q3 q4 w => va_mmin hx hb q1 hown hl (hts _ hw1) (hts _ hin6) (hts _ hw2) (by show 1 ≤ d + 1; omega) (by show _ ≤ 200 * (d + 1); omega) q3 q4 hd w) hml h ih
      · next hk6 hk7 => exact zs_cal (Or.inr (Or.inl ⟨rfl, rfl⟩)) C0 hd hc3 hk5 hk6 hk7 h ih
    case invokespecial n =>
      have h : (match r.getD 2 0 with
        | 5 => zobj (ls, st, w) (fun S => zbr b (zEv d) J Q (zrk μ) is (pc + 3) S)
        | _ => zcal b (zEv d) (r.getD 0 0) (r.getD 2 0) (r.getD 3 0) (r.getD 4 0) (r.getD 5 0) (ls, st, w) (fun S => zbr b (zEv d) J Q (zrk μ) is (pc + 3) S)) := h
      split at h
      · next hk5 =>
        have hc3 : zchi μ n r 2 = true := hc3
        unfold zchi at hc3
        rw [if_pos hk5] at hc3
        have hw2 : Jvm.Cond.instanceMethod objectInit ∈ zwd μ := zwd_in ⟨ztb_in (i := 69) (by decide +kernel), rfl⟩
        have hw3 : Jvm.Cond.code objectInit ⟨#[0xb1]⟩ 1 none ∈ zwd μ := zwd_in ⟨ztb_in (i := 70) (by decide +kernel), rfl⟩
        exact zs_obj C0 (by omega) hd (zwd_in (zat_e (zat_e2 hc3).2)) hw2 hw3 h ih
      · next hk5 =>
        have hk6 : r.getD 2 0 ≠ 6 := by
          intro q
          have hc3 : zchi μ n r 2 = true := hc3
          unfold zchi at hc3
          rw [if_neg hk5, if_pos q] at hc3
          exact absurd (of_decide_eq_true (zat_e2 hc3).1) (by decide)
        have hk7 : r.getD 2 0 ≠ 7 := by
          intro q
          have hc3 : zchi μ n r 2 = true := hc3
          unfold zchi at hc3
          rw [if_neg hk5, if_neg hk6, if_pos q] at hc3
          exact absurd (of_decide_eq_true (zat_e2 hc3).1) (by decide)
        exact zs_cal (Or.inr (Or.inr ⟨rfl, rfl⟩)) C0 hd hc3 hk5 hk6 hk7 h ih
    all_goals exact zsop_ok C0 hc1 h ih
end ZR
