/-! the law: its words (the skeleton's), its own state, its calls -/
def R_law : String := "LettersThatPassLaw"
def lw_P (b : Addr) (xs : List Int32) (args : Array Value) (s : State) : Prop := args = #[.ref b] ∧ s.IntsAt b xs ∧ xs.length ≤ 2560 ∧ (Jvm.Cond.and given_1 narrow_1).before args s = true
def lw_Q (_ : Array Value) (s : State) (o : Outcome) (t : State) : Prop := o = .returned (some (.int 1)) ∧ Framed s o t [] 600000 7302250
def lw_Z (below : List Frame) (a : Array Value) (s : State) : State → Prop := fun t => ∃ o, t.status = .running ∧ Ended t below o ∧ lw_Q a s o t
/-- the law's own end, with 1 on the stack, nothing written that was there before, its room as the claim has it -/
theorem lw_ret {p : Program} {l : Launch} {e : Env} {s : State} {m : MethodId} {below : List Frame} {meth : Method} {c : Code} {b : Nat} (hx : p.tables.exec = Jvm.exec) (hb : c.code = code) (hr : meth.sig.returnType = ret) (hlocks : meth.locks = false) {pc : Nat} {H : Heap} {ls : Array Slot} (hdg : decode code pc = .ok (.ireturn, 1)) : W p l e room_1 s m #[Value.ref b] below meth c H [] 600000 7302250 (lw_Z below #[Value.ref b] s) (F0 m pc ls [.int 1]) := by
  intro T hT X
  obtain ⟨fs, hret, hrun, hended, hW, hframe⟩ := X.leave (v := some (.int 1)) (hlocks := hlocks) (fun h => by rw [hr] at h; cases h)
  have hmeth' : T.vm.method? m = some meth := X.method'
  refine ⟨T.setFrames fs, ?_, .returned (some (.int 1)), hrun, hended, rfl, ⟨_, rfl⟩, hW, hframe⟩
  jvm_step X.here [X.here.top, hx, hb, hdg, hmeth', hr, ret, narrow_b1]
  (try refine ⟨rfl, ?_⟩); (try refine ⟨rfl, ?_⟩)
  first | (intro acts; rw [hret _ acts rfl rfl rfl]) | rw [hret _ _ rfl rfl rfl]
  exact Steps.refl _
/-- what holds at the law's entry: the machine, the code, the tables' words (any of lw_tbl by 'hts w (by decide +kernel)'), the script of L ints xs at the cell b, what the Statement gives of the start (any of its parts by flat_of_before) -/
def lw_At (p : Program) (s : State) (m : MethodId) (meth : Method) (c : Code) (b L : Nat) (xs : Nat → Int32) : Prop :=
  p.tables.exec = Jvm.exec ∧ c.code = code ∧ meth.sig.returnType = ret ∧ c.maxLocals = 4 ∧ s.vm.findClass R_law = some m.cls ∧ (∀ w ∈ lw_tbl, w.before #[Value.ref b] s = true) ∧ va_X b L xs s s.heap ∧ b < s.heap.size ∧ meth.locks = false ∧ (Jvm.Cond.and given_1 narrow_1).before #[Value.ref b] s = true

/-! the law's state: the two objects' cells lie behind what was there -/
abbrev lA (s : State) : Nat → Prop := fun q => s.heap.size ≤ q
def lS (D : va_G) (ca : Nat → ClassId) (s : State) (H : Heap) (locs : List Loc) (ad : Nat → Nat) (w : zW) : Prop := va_P D vwCl (zws ca ad w) H ∧ va_D (lA s) (zws ca ad w) ∧ va_S (lA s) s.heap H locs ∧ zok w
def lX (p : Program) (s : State) (m : MethodId) (meth : Method) (c : Code) (b L : Nat) (xs : Nat → Int32) (D : va_G) (ca : Nat → ClassId) : Prop := lw_At p s m meth c b L xs ∧ va_K D vwCl (ztys ca) s ∧ (∀ w ∈ znw, va_Nw w s) ∧ va_AO RX2 s ∧ va_AO RX5 s
theorem lgood {μ : Nat} (h : μ < zmt.length) : GoodIn lw_tbl (zwd μ) := by
  intro w hw
  rcases List.mem_cons.mp hw with rfl | hw
  · exact ⟨(zchm_e h).1.1, good_of_word (zchm_e h).1.2⟩
  · exact ⟨(List.mem_filter.mp hw).1, good_of_word (List.mem_filter.mp hw).2⟩
section LA
variable {p : Program} {l : Launch} {e : Env} {s : State} {m : MethodId} {below : List Frame} {meth : Method} {c : Code} {b L : Nat} {xs : Nat → Int32} {D : va_G} {ca : Nat → ClassId} {H : Heap} {locs : List Loc} {cells slots : Nat} {Qs : State → Prop} {cv : Array Slot} {ad : Nat → Nat} {w : zW} {pc : Nat}
/-- a call of a public method -/
theorem l_virt {d μ idx ci rr : Nat} {as rest : List zV} {Q : Int → zW → Prop} (C0 : lX p s m meth c b L xs D ca) (hs : lS D ca s H locs ad w) (hμ : μ < 225) (hl : Jvm.Cond.methodLink R_law idx (zy μ) ∈ lw_tbl) (hci : (vwCl[ci]?).map (fun q => q.1) = some (zy μ).cls) (h7 : zrow μ 7 = 0) (hnm : (zy μ).name ≠ "<init>") (hd : d ≤ 100) (hkr : zkd w.1 rr = ci) (has : as.length + 1 = zrow μ 1) (hav : ∀ v ∈ as, zvo w.1.length v) (hz : zal μ (zR rr :: as) = (0, 0)) (hcv : cv.size = 4) (hro : zcat rest ≤ 8) (hc1 : cells ≤ 600000) (hc2 : slots ≤ 7302250) (hdg : decode code pc = .ok (.invokevirtual idx, 3)) (hE : zEv d μ (zR rr :: as) w Q)
    (kk : ∀ (r : Int) (w' : zW) (ad' : Nat → Nat) (H1 : Heap) (locs1 : List Loc), Q r w' → zro (zrk μ) w'.1.length r → lS D ca s H1 locs1 ad' w' → (∀ k, k < w.1.length → ad' k = ad k) → W p l e room_1 s m #[Value.ref b] below meth c H1 locs1 cells slots Qs (F0 m (pc + 3) cv ((zrv (zrk μ) ad' r).toList ++ rest.map (zcv ad)))) :
    W p l e room_1 s m #[Value.ref b] below meth c H locs cells slots Qs (F0 m pc cv ((as.map (zcv ad)).reverse ++ .ref (ad rr) :: rest.map (zcv ad))) := by
  obtain ⟨⟨hx, hb, hr, hml, hown, hts, hX, hbl, hlocks, hgv⟩, hK, hnw, hao⟩ := C0
  obtain ⟨hP, hD, hS, hok⟩ := hs
  have hlt : μ < zmt.length := by rw [zmt_len]; exact hμ
  obtain ⟨c1, c2, c3, c4, c5, c6, c7, c8, c9⟩ := zchm_e hlt
  obtain ⟨i1, i2, i3, i4⟩ := c8 h7
  cases hq : vwCl[ci]? with
  | none => rw [hq] at hci; cases hci
  | some q0 =>
    rw [hq] at hci
    obtain ⟨C, T, N⟩ := q0
    have hC : C = (zy μ).cls := Option.some.inj hci
    subst hC
    have hci2 := zci_lt hq
    have hrl : rr < w.1.length := zkd_lt hkr (by omega)
    have hM := hE l D ca ad H.size
    have hb1 : zbd μ (zR rr :: as) w = (w.1.length, zsz w.1, 0, 0) := by unfold zbd; rw [hz]
    rw [hb1, hz] at hM
    have hfix : CallFix p m c code 4 s #[Value.ref b] lw_tbl R_law := ⟨hx, hb, hml, hown, hts⟩
    have hR : (zrm d (w.1.length, zsz w.1, 0, 0)).frames + 1 ≤ room_1.frames ∧ 8 + (zmaxL μ + 11) + (zrm d (w.1.length, zsz w.1, 0, 0)).locals ≤ room_1.locals := by
      show d + 1 ≤ 2048 ∧ 8 + (zmaxL μ + 11) + 200 * d ≤ 84000
      omega
    have hvs : ∀ v ∈ (zR rr :: as), zvo w.1.length v := fun v hv => by
      rcases List.mem_cons.mp hv with rfl | hv
      · exact hrl
      · exact hav v hv
    have hrun := va_runV (R := room_1) (locs := locs) (cells := cells) (slots := slots) (below := below) (meth := meth) (e := e) (H := H) (C := (zy μ).cls) (b := ad rr) (As := as.map (zcv ad)) (rest := rest.map (zcv ad)) (n := zrow μ 1 - 1) (g := F0 m pc cv ((as.map (zcv ad)).reverse ++ .ref (ad rr) :: rest.map (zcv ad))) hfix hM ⟨callB_of (zrow μ 1 - 1) hts (lgood hlt) rfl rfl rfl (hts _ c2.1) (hts _ hl) ⟨c4.1, c4.2, i3⟩ hR, hts _ i1.1, hts _ (i2 hnm).1⟩ ⟨zPr_blind, va_recv hK hP hq (q0 := rr) (fs := (List.range (znf ci)).map (zfv ad w.1 w.2.1 ci rr)) (by rw [zws_at hrl, zce_obj hkr (by omega)]), zPr_at (a := zR rr :: as) hnw hao hK hP hD hok hvs⟩ rfl (by rw [List.length_map]; omega) hcv rfl (lv_room (by rw [zcat_eq]; exact hro)) hdg ⟨hc1, hc2⟩
    refine zcb (ls := []) (rk := zrk μ) hrun rfl (fun q h => h) hP hD hS (fun r w' ad' H1 locs1 q1 q2 q3 q4 q5 q6 q7 q8 q9 => ?_)
    exact kk r w' ad' H1 locs1 q1 q2 ⟨q3, q4, q9, q5⟩ q8
/-- a new object of a class -/
theorem l_new {ci nf idx : Nat} {σ : zSh} {M L1 : zM} {rest : List Value} (C0 : lX p s m meth c b L xs D ca) (hs : lS D ca s H locs ad (σ, M, L1)) (hcl : ∃ C T, vwCl[ci]? = some (C, T, nf) ∧ Jvm.Cond.classLink R_law idx C ∈ lw_tbl) (hc1 : cells + 1 ≤ 600000) (hc2 : slots + nf ≤ 7302250) (hb0 : σ.length + 1 ≤ 600000 ∧ zsz σ + nf ≤ 7302250) (hdg : decode code pc = .ok (.new idx, 3))
    (kk : ∀ (H1 : Heap) (ad' : Nat → Nat), lS D ca s H1 locs ad' (σ ++ [(ci, 0, List.replicate nf none)], zmz M σ.length, L1) → (∀ k, k < σ.length → ad' k = ad k) → W p l e room_1 s m #[Value.ref b] below meth c H1 locs (cells + 1) (slots + nf) Qs (F0 m (pc + 3) cv (.ref (ad' σ.length) :: rest))) :
    W p l e room_1 s m #[Value.ref b] below meth c H locs cells slots Qs (F0 m pc cv rest) := by
  obtain ⟨⟨hx, hb, hr, hml, hown, hts, hX, hbl, hlocks, hgv⟩, hK, hnw, hao⟩ := C0
  obtain ⟨hP, hD, hS, hok⟩ := hs
  obtain ⟨C, T, hq, hk⟩ := hcl
  obtain ⟨q1, q2, q3, q4, q5, ty0, q6, q7⟩ := zclp_all _ _ hq
  have hci := zci_lt hq
  dsimp only at q1 q2 q3 q4 q5 q6 q7
  have hkd : zkd (σ ++ [(ci, 0, List.replicate nf none)]) σ.length = ci := by unfold zkd; rw [zap_last]
  have hrf : ∀ j, zrf (σ ++ [(ci, 0, List.replicate nf none)]) σ.length j = none := by intro j; unfold zrf; rw [zap_last]; exact zrep_none
  have hsz : zsz1 (ci, 0, List.replicate nf none) = nf := by unfold zsz1; rw [if_pos (by show ci < 20; omega)]; exact q4
  have hv : ∀ (ad' : Nat → Nat) (j : Nat), j < nf → defaultValue (ty0 j) = zfv ad' (σ ++ [(ci, 0, List.replicate nf none)]) (zmz M σ.length) ci σ.length j := by
    intro ad' j hj
    unfold zfv
    rw [hrf]
    have hz : zmz M σ.length σ.length j = 0 := by unfold zmz; rw [if_pos rfl]
    rw [hz]
    rcases (q7 j hj).2 with ⟨t1, t2⟩ | ⟨t1, t2⟩ | ⟨t1, t2⟩
    · rw [if_neg (by omega), t2]; rfl
    · rw [if_neg (by omega), t2]; rfl
    · rw [if_pos t1]
      cases hty : ty0 j <;> rw [hty] at t2 <;> first | (simp [FieldType.isReference] at t2; done) | rfl
  refine va_new (ci := ci) (fs := (List.range (znf ci)).map (zfv ad (σ ++ [(ci, 0, List.replicate nf none)]) (zmz M σ.length) ci σ.length)) (C := C) (T := T) (N := nf) hx hb hts (fun u hu => (q1 u hu).1) ty0 q6 hown (hts _ hk) (hts _ q2.1) (hts _ q3.1) hK hP hD hS (fun q h => h) hq ?_ hc1 hc2 hdg (fun q H1 g1 g2 g3 => ?_)
  · intro j hj
    rw [hv ad j hj]
    unfold vp_V
    rw [List.getD_eq_getElem?_getD, List.getElem?_map, List.getElem?_range (by omega)]
    rfl
  · have hxx : zce ca (va_up ad σ.length q) (σ ++ [(ci, 0, List.replicate nf none)], zmz M σ.length, L1) σ.length = .inr (ci, (List.range (znf ci)).map (zfv ad (σ ++ [(ci, 0, List.replicate nf none)]) (zmz M σ.length) ci σ.length)) := by
      have hfv : zfv (va_up ad σ.length q) (σ ++ [(ci, 0, List.replicate nf none)]) (zmz M σ.length) ci σ.length = zfv ad (σ ++ [(ci, 0, List.replicate nf none)]) (zmz M σ.length) ci σ.length := zfv_congr (fun j => by rw [hrf]; rfl) (fun j => rfl)
      rw [zce_obj hkd (by omega)]
      dsimp only
      rw [hfv]
    have hwf : lv_wf (#[] : Array Slot) := ⟨fun i v h => by simp at h, fun i h => by simp at h⟩
    have hst : zst D ca (lA s) s (0, 0, 600000, 7302250) ad 0 H locs #[] ad ([], [], σ, M, L1) := ⟨hP, hD, hS, hok, fun v hv => absurd hv List.not_mem_nil, fun v hv => absurd hv List.not_mem_nil, ⟨rfl, hwf, fun j v hj _ => by simp at hj⟩, by
      show zfr (0, 0, 600000, 7302250) σ
      unfold zfr
      dsimp only
      omega, fun k _ => rfl⟩
    obtain ⟨n1, n2⟩ := hst.new (st' := []) (en := (ci, 0, List.replicate nf none)) (fun v hv => absurd hv List.not_mem_nil) ⟨Or.inl ⟨hci, by show (List.replicate nf none).length = znf ci; rw [List.length_replicate, q4]⟩, fun g => by dsimp only at g; omega, Nat.zero_le _⟩ (fun j => zrep_none) (Or.inl rfl) (by rw [hsz]; dsimp only; omega) hxx g1 g2 g3
    have := kk H1 (va_up ad σ.length q) ⟨n1.1, n1.2.1, n1.2.2.1, n1.2.2.2.1⟩ (fun k hk => va_up_ne _ _ (by omega))
    rw [va_up_self] at this
    exact this
/-- a call of a constructor -/
theorem l_init {d μ idx rr mc ms : Nat} {rest : List zV} {Q : Int → zW → Prop} (C0 : lX p s m meth c b L xs D ca) (hs : lS D ca s H locs ad w) (hμ : μ < 225) (hl : Jvm.Cond.methodLink R_law idx (zy μ) ∈ lw_tbl) (h7 : zrow μ 7 = 0) (hnm : (zy μ).name = "<init>") (hd : d ≤ 100) (hrl : rr < w.1.length) (has : 1 = zrow μ 1) (hz : zal μ [zR rr] = (mc, ms)) (hcv : cv.size = 4) (hro : zcat rest ≤ 8) (hc1 : cells + mc ≤ 600000) (hc2 : slots + ms ≤ 7302250) (hdg : decode code pc = .ok (.invokespecial idx, 3)) (hE : zEv d μ [zR rr] w Q)
    (kk : ∀ (r : Int) (w' : zW) (ad' : Nat → Nat) (H1 : Heap) (locs1 : List Loc), Q r w' → lS D ca s H1 locs1 ad' w' → (∀ k, k < w.1.length → ad' k = ad k) → W p l e room_1 s m #[Value.ref b] below meth c H1 locs1 (cells + mc) (slots + ms) Qs (F0 m (pc + 3) cv (rest.map (zcv ad)))) :
    W p l e room_1 s m #[Value.ref b] below meth c H locs cells slots Qs (F0 m pc cv (.ref (ad rr) :: rest.map (zcv ad))) := by
  obtain ⟨⟨hx, hb, hr, hml, hown, hts, hX, hbl, hlocks, hgv⟩, hK, hnw, hao⟩ := C0
  obtain ⟨hP, hD, hS, hok⟩ := hs
  have hlt : μ < zmt.length := by rw [zmt_len]; exact hμ
  obtain ⟨c1, c2, c3, c4, c5, c6, c7, c8, c9⟩ := zchm_e hlt
  obtain ⟨i1, i2, i3, i4⟩ := c8 h7
  have hrk := c7 hnm
  have hnone : zret μ = none := by
    rw [hrk] at c6
    exact zrt_0 c6
  have hM := hE l D ca ad H.size
  have hb1 : zbd μ [zR rr] w = (w.1.length, zsz w.1, mc, ms) := by unfold zbd; rw [hz]
  rw [hb1, hz] at hM
  have hfix : CallFix p m c code 4 s #[Value.ref b] lw_tbl R_law := ⟨hx, hb, hml, hown, hts⟩
  have hR : (zrm d (w.1.length, zsz w.1, mc, ms)).frames + 1 ≤ room_1.frames ∧ 8 + (zmaxL μ + 11) + (zrm d (w.1.length, zsz w.1, mc, ms)).locals ≤ room_1.locals := by
    show d + 1 ≤ 2048 ∧ 8 + (zmaxL μ + 11) + 200 * d ≤ 84000
    omega
  have hvs : ∀ v ∈ ([zR rr] : List zV), zvo w.1.length v := fun v hv => by
    rw [List.mem_singleton.mp hv]
    exact hrl
  have hrun := va_runI (R := room_1) (locs := locs) (cells := cells) (slots := slots) (below := below) (meth := meth) (e := e) (H := H) (b := ad rr) (As := []) (rest := rest.map (zcv ad)) (n := zrow μ 1 - 1) (g := F0 m pc cv (.ref (ad rr) :: rest.map (zcv ad))) hfix hM ⟨by rw [← hnone]; exact callB_of (zrow μ 1 - 1) hts (lgood hlt) rfl rfl rfl (hts _ c2.1) (hts _ hl) ⟨c4.1, c4.2, i3⟩ hR, hnm, hts _ i1.1⟩ ⟨zPr_blind, zPr_at (a := [zR rr]) hnw hao hK hP hD hok hvs⟩ rfl (by rw [List.length_nil]; omega) hcv rfl (lv_room (by rw [zcat_eq]; exact hro)) hdg ⟨hc1, hc2⟩
  refine zcb (ls := []) (rk := zrk μ) hrun rfl (fun q h => h) hP hD hS (fun r w' ad' H1 locs1 q1 q2 q3 q4 q5 q6 q7 q8 q9 => ?_)
  have := kk r w' ad' H1 locs1 q1 ⟨q3, q4, q9, q5⟩ q8
  rw [hrk]
  exact this
end LA
