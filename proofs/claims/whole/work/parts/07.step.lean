/-! single instructions -/
def zrm (d : Nat) (b : zB) : Room := { frames := d, cells := b.2.2.1, slots := b.2.2.2, locals := 200 * d }
def zfr (b : zB) (σ : zSh) : Prop := b.1 ≤ σ.length ∧ σ.length ≤ b.1 + b.2.2.1 ∧ b.2.1 ≤ zsz σ ∧ zsz σ ≤ b.2.1 + b.2.2.2
def zCx (p : Program) (s : State) (m : MethodId) (args : Array Value) (meth : Method) (c : Code) (D : va_G) (ca : Nat → ClassId) (A : Nat → Prop) (μ : Nat) : Prop :=
  p.tables.exec = Jvm.exec ∧ c.code = zcode μ ∧ c.maxLocals = zmaxL μ ∧ meth.sig.returnType = zret μ ∧ s.vm.findClass (zy μ).cls = some m.cls ∧ meth.locks = false ∧ ((zy μ).name = "<init>" → meth.name = "<init>") ∧
  (∀ w ∈ zwd μ, w.before args s = true) ∧ (∀ w ∈ znw, va_Nw w s) ∧ (va_AO RX2 s ∧ va_AO RX5 s) ∧ va_K D vwCl (ztys ca) s ∧ ∀ q, s.heap.size ≤ q → A q
def zst (D : va_G) (ca : Nat → ClassId) (A : Nat → Prop) (s : State) (b : zB) (ad0 : Nat → Nat) (nL : Nat) (H : Heap) (locs : List Loc) (cv : Array Slot) (ad : Nat → Nat) (S : zMS) : Prop :=
  va_P D vwCl (zws ca ad S.2.2) H ∧ va_D A (zws ca ad S.2.2) ∧ va_S A s.heap H locs ∧ zok S.2.2 ∧ (∀ v ∈ S.1, zvo S.2.2.1.length v) ∧ (∀ v ∈ S.2.1, zvo S.2.2.1.length v) ∧ zlr ad nL S.1 cv ∧ zfr b S.2.2.1 ∧ ∀ k, k < b.1 → ad k = ad0 k
theorem zst.stk {D : va_G} {ca : Nat → ClassId} {A : Nat → Prop} {s : State} {b : zB} {ad0 : Nat → Nat} {nL : Nat} {H : Heap} {locs : List Loc} {cv : Array Slot} {ad : Nat → Nat} {ls st st' : List zV} {w : zW} (h : zst D ca A s b ad0 nL H locs cv ad (ls, st, w)) (hs : ∀ v ∈ st', zvo w.1.length v) : zst D ca A s b ad0 nL H locs cv ad (ls, st', w) :=
  ⟨h.1, h.2.1, h.2.2.1, h.2.2.2.1, h.2.2.2.2.1, hs, h.2.2.2.2.2.2.1, h.2.2.2.2.2.2.2.1, h.2.2.2.2.2.2.2.2⟩
theorem zst.loc {D : va_G} {ca : Nat → ClassId} {A : Nat → Prop} {s : State} {b : zB} {ad0 : Nat → Nat} {nL : Nat} {H : Heap} {locs : List Loc} {cv cv' : Array Slot} {ad : Nat → Nat} {ls ls' st st' : List zV} {w : zW} (h : zst D ca A s b ad0 nL H locs cv ad (ls, st, w)) (hl : ∀ v ∈ ls', zvo w.1.length v) (hs : ∀ v ∈ st', zvo w.1.length v) (hr : zlr ad nL ls' cv') : zst D ca A s b ad0 nL H locs cv' ad (ls', st', w) :=
  ⟨h.1, h.2.1, h.2.2.1, h.2.2.2.1, hl, hs, hr, h.2.2.2.2.2.2.2.1, h.2.2.2.2.2.2.2.2⟩
def zWS (p : Program) (l : Launch) (e : Env) (s : State) (m : MethodId) (args : Array Value) (below : List Frame) (meth : Method) (c : Code) (D : va_G) (ca : Nat → ClassId) (A : Nat → Prop) (d μ : Nat) (b : zB) (ad0 : Nat → Nat) (Qs : State → Prop) (pc : Nat) (S : zMS) : Prop :=
  ∀ (H : Heap) (locs : List Loc) (cv : Array Slot) (ad : Nat → Nat), zst D ca A s b ad0 (zmaxL μ) H locs cv ad S → W p l e (zrm d b) s m args below meth c H locs (S.2.2.1.length - b.1) (zsz S.2.2.1 - b.2.1) Qs (F0 m pc cv (S.2.1.map (zcv ad)))
theorem zdec {μ pc : Nat} {i : zIns} (h : zch μ pc i = true) : decode (zcode μ) pc = .ok (i.1, zlen i.1) ∧ zch2 μ pc i = true := by
  unfold zch at h
  rw [Bool.and_eq_true, decide_eq_true_eq] at h
  exact h
theorem zvo_I {n : Nat} {x : Int} {st : List zV} (hx : zr32 x) (h : ∀ v ∈ st, zvo n v) : ∀ v ∈ (zI x :: st), zvo n v := fun v hv => by
  rcases List.mem_cons.mp hv with rfl | hv
  · exact hx
  · exact h v hv
theorem zvo_L {n : Nat} {x : Int} {st : List zV} (hx : zr64 x) (h : ∀ v ∈ st, zvo n v) : ∀ v ∈ (zL x :: st), zvo n v := fun v hv => by
  rcases List.mem_cons.mp hv with rfl | hv
  · exact hx
  · exact h v hv
theorem zvo_R {n x : Nat} {st : List zV} (hx : x < n) (h : ∀ v ∈ st, zvo n v) : ∀ v ∈ (zR x :: st), zvo n v := fun v hv => by
  rcases List.mem_cons.mp hv with rfl | hv
  · exact hx
  · exact h v hv
theorem zvo_t {n : Nat} {u : zV} {st : List zV} (h : ∀ v ∈ (u :: st), zvo n v) : zvo n u ∧ ∀ v ∈ st, zvo n v := ⟨h u List.mem_cons_self, fun v hv => h v (List.mem_cons_of_mem _ hv)⟩
theorem zvo_get {n i : Nat} {ls : List zV} (h : ∀ v ∈ ls, zvo n v) : zvo n (ls.getD i zN) := by
  rw [List.getD_eq_getElem?_getD]
  cases hi : ls[i]? with
  | none => exact trivial
  | some v => exact h v (List.mem_of_getElem? hi)
section ZS
variable {p : Program} {l : Launch} {e : Env} {s : State} {m : MethodId} {args : Array Value} {below : List Frame} {meth : Method} {c : Code} {D : va_G} {ca : Nat → ClassId} {A : Nat → Prop} {d μ : Nat} {b : zB} {ad0 : Nat → Nat} {Qs : State → Prop}
variable {pc n : Nat} {S : zMS} {k : zMS → Prop}
theorem zs_push {v : zV} {x : Value} (hz : ∀ n, zvo n v) (hx : ∀ ad, zcv ad v = x)
    (hr : ∀ (H : Heap) (locs : List Loc) (cv : Array Slot) (rest : List Value) (cells slots : Nat), W p l e (zrm d b) s m args below meth c H locs cells slots Qs (F0 m n cv (x :: rest)) → W p l e (zrm d b) s m args below meth c H locs cells slots Qs (F0 m pc cv rest))
    (h : zpu v S k) (hk : ∀ S', k S' → zWS p l e s m args below meth c D ca A d μ b ad0 Qs n S') : zWS p l e s m args below meth c D ca A d μ b ad0 Qs pc S := by
  intro H locs cv ad hs
  have h2 := hk _ h H locs cv ad (hs.stk (st' := v :: S.2.1) (fun u hu => by
    rcases List.mem_cons.mp hu with rfl | hu
    · exact hz _
    · exact hs.2.2.2.2.2.1 u hu))
  refine hr H locs cv _ _ _ ?_
  rw [← hx ad]
  exact h2
theorem zs_ldI {i : Nat} (hr : ∀ (H : Heap) (locs : List Loc) (cv : Array Slot) (rest : List Value) (cells slots : Nat) (x : Int32), cv[i]? = some (.val (.int x)) → W p l e (zrm d b) s m args below meth c H locs cells slots Qs (F0 m n cv (.int x :: rest)) → W p l e (zrm d b) s m args below meth c H locs cells slots Qs (F0 m pc cv rest))
    (h : zldI i S k) (hk : ∀ S', k S' → zWS p l e s m args below meth c D ca A d μ b ad0 Qs n S') : zWS p l e s m args below meth c D ca A d μ b ad0 Qs pc S := by
  intro H locs cv ad hs
  have hv := zvo_get (i := i) hs.2.2.2.2.1
  unfold zldI at h
  rcases hg : S.1.getD i zN with x | x | x | x <;> rw [hg] at h hv
  · exact hr H locs cv _ _ _ (Int32.ofInt x) (zlr_at hs.2.2.2.2.2.2.1 hg (by simp [zN])) (hk _ h H locs cv ad (hs.stk (zvo_I hv hs.2.2.2.2.2.1)))
  all_goals exact absurd h id
theorem zs_ldL {i : Nat} (hr : ∀ (H : Heap) (locs : List Loc) (cv : Array Slot) (rest : List Value) (cells slots : Nat) (x : Int64), cv[i]? = some (.val (.long x)) → W p l e (zrm d b) s m args below meth c H locs cells slots Qs (F0 m n cv (.long x :: rest)) → W p l e (zrm d b) s m args below meth c H locs cells slots Qs (F0 m pc cv rest))
    (h : zldL i S k) (hk : ∀ S', k S' → zWS p l e s m args below meth c D ca A d μ b ad0 Qs n S') : zWS p l e s m args below meth c D ca A d μ b ad0 Qs pc S := by
  intro H locs cv ad hs
  have hv := zvo_get (i := i) hs.2.2.2.2.1
  unfold zldL at h
  rcases hg : S.1.getD i zN with x | x | x | x <;> rw [hg] at h hv
  · exact absurd h id
  · exact hr H locs cv _ _ _ (Int64.ofInt x) (zlr_at hs.2.2.2.2.2.2.1 hg (by simp [zN])) (hk _ h H locs cv ad (hs.stk (zvo_L hv hs.2.2.2.2.2.1)))
  all_goals exact absurd h id
theorem zs_ldR {i : Nat} (hr : ∀ (H : Heap) (locs : List Loc) (cv : Array Slot) (rest : List Value) (cells slots : Nat) (x : Nat), cv[i]? = some (.val (.ref x)) → W p l e (zrm d b) s m args below meth c H locs cells slots Qs (F0 m n cv (.ref x :: rest)) → W p l e (zrm d b) s m args below meth c H locs cells slots Qs (F0 m pc cv rest))
    (h : zldR i S k) (hk : ∀ S', k S' → zWS p l e s m args below meth c D ca A d μ b ad0 Qs n S') : zWS p l e s m args below meth c D ca A d μ b ad0 Qs pc S := by
  intro H locs cv ad hs
  have hv := zvo_get (i := i) hs.2.2.2.2.1
  unfold zldR at h
  rcases hg : S.1.getD i zN with x | x | x | x <;> rw [hg] at h hv
  · exact absurd h id
  · exact absurd h id
  · exact hr H locs cv _ _ _ (ad x) (zlr_at hs.2.2.2.2.2.2.1 hg (by simp [zN])) (hk _ h H locs cv ad (hs.stk (zvo_R hv hs.2.2.2.2.2.1)))
  · exact absurd h id
theorem zs_stI {i : Nat} (hr : ∀ (H : Heap) (locs : List Loc) (cv : Array Slot) (rest : List Value) (cells slots : Nat) (x : Int32) (lv : List (Nat × Value)), lv_has cv (zmaxL μ) lv → (∀ cv' : Array Slot, lv_has cv' (zmaxL μ) ((i, Value.int x) :: lv.filter (fun q => !(q.1 == i) && !(q.1 + 1 == i && q.2.category == 2))) → W p l e (zrm d b) s m args below meth c H locs cells slots Qs (F0 m n cv' rest)) → W p l e (zrm d b) s m args below meth c H locs cells slots Qs (F0 m pc cv (.int x :: rest)))
    (h : zstI i S k) (hk : ∀ S', k S' → zWS p l e s m args below meth c D ca A d μ b ad0 Qs n S') : zWS p l e s m args below meth c D ca A d μ b ad0 Qs pc S := by
  obtain ⟨ls, st, w⟩ := S
  intro H locs cv ad hs
  unfold zstI at h
  have hst := hs.2.2.2.2.2.1
  rcases st with _ | ⟨x | x | x | x, st⟩
  · exact absurd h id
  · obtain ⟨h1, h2⟩ := zvo_t hst
    exact hr H locs cv _ _ _ (Int32.ofInt x) _ (zlr_has.mp hs.2.2.2.2.2.2.1) (fun cv' h' => hk _ h H locs cv' ad (hs.loc (zset_mem hs.2.2.2.2.1 h1 trivial) h2 (zlr_set1 (v := zI x) h')))
  all_goals exact absurd h id
theorem zs_stR {i : Nat} (hr : ∀ (H : Heap) (locs : List Loc) (cv : Array Slot) (rest : List Value) (cells slots : Nat) (x : Nat) (lv : List (Nat × Value)), lv_has cv (zmaxL μ) lv → (∀ cv' : Array Slot, lv_has cv' (zmaxL μ) ((i, Value.ref x) :: lv.filter (fun q => !(q.1 == i) && !(q.1 + 1 == i && q.2.category == 2))) → W p l e (zrm d b) s m args below meth c H locs cells slots Qs (F0 m n cv' rest)) → W p l e (zrm d b) s m args below meth c H locs cells slots Qs (F0 m pc cv (.ref x :: rest)))
    (h : zstR i S k) (hk : ∀ S', k S' → zWS p l e s m args below meth c D ca A d μ b ad0 Qs n S') : zWS p l e s m args below meth c D ca A d μ b ad0 Qs pc S := by
  obtain ⟨ls, st, w⟩ := S
  intro H locs cv ad hs
  unfold zstR at h
  have hst := hs.2.2.2.2.2.1
  rcases st with _ | ⟨x | x | x | x, st⟩
  · exact absurd h id
  · exact absurd h id
  · exact absurd h id
  · obtain ⟨h1, h2⟩ := zvo_t hst
    exact hr H locs cv _ _ _ (ad x) _ (zlr_has.mp hs.2.2.2.2.2.2.1) (fun cv' h' => hk _ h H locs cv' ad (hs.loc (zset_mem hs.2.2.2.2.1 h1 trivial) h2 (zlr_set1 (v := zR x) h')))
  · exact absurd h id
theorem zs_stL {i : Nat} (hr : ∀ (H : Heap) (locs : List Loc) (cv : Array Slot) (rest : List Value) (cells slots : Nat) (x : Int64) (lv : List (Nat × Value)), lv_has cv (zmaxL μ) lv → (∀ cv' : Array Slot, lv_has cv' (zmaxL μ) ((i, Value.long x) :: lv.filter (fun q => !(q.1 == i) && (!(q.1 == i + 1) && !(q.1 + 1 == i && q.2.category == 2)))) → W p l e (zrm d b) s m args below meth c H locs cells slots Qs (F0 m n cv' rest)) → W p l e (zrm d b) s m args below meth c H locs cells slots Qs (F0 m pc cv (.long x :: rest)))
    (h : zstL i S k) (hk : ∀ S', k S' → zWS p l e s m args below meth c D ca A d μ b ad0 Qs n S') : zWS p l e s m args below meth c D ca A d μ b ad0 Qs pc S := by
  obtain ⟨ls, st, w⟩ := S
  intro H locs cv ad hs
  unfold zstL at h
  have hst := hs.2.2.2.2.2.1
  rcases st with _ | ⟨x | x | x | x, st⟩
  · exact absurd h id
  · exact absurd h id
  · obtain ⟨h1, h2⟩ := zvo_t hst
    exact hr H locs cv _ _ _ (Int64.ofInt x) _ (zlr_has.mp hs.2.2.2.2.2.2.1) (fun cv' h' => hk _ h H locs cv' ad (hs.loc (zset2_mem hs.2.2.2.2.1 h1 trivial) h2 (zlr_set2 (v := zL x) h')))
  all_goals exact absurd h id
theorem zs_inc {i : Nat} {z : Int} (hx : p.tables.exec = Jvm.exec) (hb : c.code = zcode μ) (hdg : decode (zcode μ) pc = .ok (.iinc i z, 3)) (hi : i < zmaxL μ)
    (h : zinc i z S k) (hk : ∀ S', k S' → zWS p l e s m args below meth c D ca A d μ b ad0 Qs (pc + 3) S') : zWS p l e s m args below meth c D ca A d μ b ad0 Qs pc S := by
  obtain ⟨ls, st, w⟩ := S
  intro H locs cv ad hs
  have hv := zvo_get (i := i) hs.2.2.2.2.1
  unfold zinc at h
  dsimp only at h hv
  rcases hg : ls.getD i zN with x | x | x | x <;> rw [hg] at h hv
  · have hl := zlr_has.mp hs.2.2.2.2.2.2.1
    have hm : (i, Value.int (Int32.ofInt x)) ∈ zll ad ls := by
      refine zll_mem.mpr ⟨zI x, ?_, by simp [zN], rfl⟩
      show ls[i]? = some (zI x)
      rw [List.getD_eq_getElem?_getD] at hg
      cases hi : ls[i]? with
      | none => rw [hi] at hg; simp [zN] at hg
      | some u => rw [hi] at hg; simp at hg; rw [hg]
    obtain ⟨q, hq⟩ := List.getElem?_of_mem hm
    refine lv_iinc (v := Int32.ofInt (zwr (x + z))) hx hb hdg hl hq (by unfold zwr; rw [Int32.ofInt_toInt, Int32.ofInt_add]) hi rfl (fun cv' h' => ?_)
    exact hk _ h H locs cv' ad (hs.loc (zset_mem hs.2.2.2.2.1 (zr32_of _) trivial) hs.2.2.2.2.2.1 (zlr_set1 (v := zI (zwr (x + z))) h'))
  all_goals exact absurd h id
theorem zs_un {f : Int → Int} {F : Int32 → Int32} (hf : ∀ x, Int32.ofInt (f x) = F (Int32.ofInt x)) (hf2 : ∀ x, zr32 (f x)) (hr : ∀ (H : Heap) (locs : List Loc) (cv : Array Slot) (rest : List Value) (cells slots : Nat) (x : Int32), W p l e (zrm d b) s m args below meth c H locs cells slots Qs (F0 m n cv (.int (F x) :: rest)) → W p l e (zrm d b) s m args below meth c H locs cells slots Qs (F0 m pc cv (.int x :: rest)))
    (h : zun f S k) (hk : ∀ S', k S' → zWS p l e s m args below meth c D ca A d μ b ad0 Qs n S') : zWS p l e s m args below meth c D ca A d μ b ad0 Qs pc S := by
  obtain ⟨ls, st, w⟩ := S
  intro H locs cv ad hs
  unfold zun at h
  have hst := hs.2.2.2.2.2.1
  rcases st with _ | ⟨x | x | x | x, st⟩
  · exact absurd h id
  · obtain ⟨h1, h2⟩ := zvo_t hst
    refine hr H locs cv _ _ _ (Int32.ofInt x) ?_
    rw [← hf]
    exact hk _ h H locs cv ad (hs.stk (zvo_I (hf2 x) h2))
  all_goals exact absurd h id
theorem zs_bin {f : Int → Int → Int} {F : Int32 → Int32 → Int32} (hf : ∀ x y, Int32.ofInt (f x y) = F (Int32.ofInt x) (Int32.ofInt y)) (hf2 : ∀ x y, zr32 (f x y)) (hr : ∀ (H : Heap) (locs : List Loc) (cv : Array Slot) (rest : List Value) (cells slots : Nat) (x y : Int32), W p l e (zrm d b) s m args below meth c H locs cells slots Qs (F0 m n cv (.int (F x y) :: rest)) → W p l e (zrm d b) s m args below meth c H locs cells slots Qs (F0 m pc cv (.int y :: .int x :: rest)))
    (h : zbin f S k) (hk : ∀ S', k S' → zWS p l e s m args below meth c D ca A d μ b ad0 Qs n S') : zWS p l e s m args below meth c D ca A d μ b ad0 Qs pc S := by
  obtain ⟨ls, st, w⟩ := S
  intro H locs cv ad hs
  unfold zbin at h
  have hst := hs.2.2.2.2.2.1
  rcases st with _ | ⟨y | y | y | y, _ | ⟨x | x | x | x, st⟩⟩
  case cons.inl.cons.inl =>
    obtain ⟨h1, h2⟩ := zvo_t hst
    obtain ⟨h3, h4⟩ := zvo_t h2
    refine hr H locs cv _ _ _ (Int32.ofInt x) (Int32.ofInt y) ?_
    rw [← hf]
    exact hk _ h H locs cv ad (hs.stk (zvo_I (hf2 x y) h4))
  all_goals exact absurd h id
theorem zs_binN {f : Int → Int → Int} {F : Int32 → Int32 → Int32} (hf : ∀ x y, Int32.ofInt (f x y) = F (Int32.ofInt x) (Int32.ofInt y)) (hf2 : ∀ x y, zr32 (f x y)) (hr : ∀ (H : Heap) (locs : List Loc) (cv : Array Slot) (rest : List Value) (cells slots : Nat) (x y : Int32), ¬ y = 0 → W p l e (zrm d b) s m args below meth c H locs cells slots Qs (F0 m n cv (.int (F x y) :: rest)) → W p l e (zrm d b) s m args below meth c H locs cells slots Qs (F0 m pc cv (.int y :: .int x :: rest)))
    (h : zbinN f S k) (hk : ∀ S', k S' → zWS p l e s m args below meth c D ca A d μ b ad0 Qs n S') : zWS p l e s m args below meth c D ca A d μ b ad0 Qs pc S := by
  obtain ⟨ls, st, w⟩ := S
  intro H locs cv ad hs
  unfold zbinN at h
  have hst := hs.2.2.2.2.2.1
  rcases st with _ | ⟨y | y | y | y, _ | ⟨x | x | x | x, st⟩⟩
  case cons.inl.cons.inl =>
    obtain ⟨h1, h2⟩ := zvo_t hst
    obtain ⟨h3, h4⟩ := zvo_t h2
    obtain ⟨h5, h6⟩ := zck_e h
    refine hr H locs cv _ _ _ (Int32.ofInt x) (Int32.ofInt y) (fun q => h5 ((zr32_eq h1 zr32_0).mp q)) ?_
    rw [← hf]
    exact hk _ h6 H locs cv ad (hs.stk (zvo_I (hf2 x y) h4))
  all_goals exact absurd h id
theorem zs_lbin {f : Int → Int → Int} {F : Int64 → Int64 → Int64} (hf : ∀ x y, Int64.ofInt (f x y) = F (Int64.ofInt x) (Int64.ofInt y)) (hf2 : ∀ x y, zr64 (f x y)) (hr : ∀ (H : Heap) (locs : List Loc) (cv : Array Slot) (rest : List Value) (cells slots : Nat) (x y : Int64), W p l e (zrm d b) s m args below meth c H locs cells slots Qs (F0 m n cv (.long (F x y) :: rest)) → W p l e (zrm d b) s m args below meth c H locs cells slots Qs (F0 m pc cv (.long y :: .long x :: rest)))
    (h : zlbin f S k) (hk : ∀ S', k S' → zWS p l e s m args below meth c D ca A d μ b ad0 Qs n S') : zWS p l e s m args below meth c D ca A d μ b ad0 Qs pc S := by
  obtain ⟨ls, st, w⟩ := S
  intro H locs cv ad hs
  unfold zlbin at h
  have hst := hs.2.2.2.2.2.1
  rcases st with _ | ⟨y | y | y | y, _ | ⟨x | x | x | x, st⟩⟩
  case cons.inr.inl.cons.inr.inl =>
    obtain ⟨h1, h2⟩ := zvo_t hst
    obtain ⟨h3, h4⟩ := zvo_t h2
    refine hr H locs cv _ _ _ (Int64.ofInt x) (Int64.ofInt y) ?_
    rw [← hf]
    exact hk _ h H locs cv ad (hs.stk (zvo_L (hf2 x y) h4))
  all_goals exact absurd h id
theorem zs_lbinN {f : Int → Int → Int} {F : Int64 → Int64 → Int64} (hf : ∀ x y, Int64.ofInt (f x y) = F (Int64.ofInt x) (Int64.ofInt y)) (hf2 : ∀ x y, zr64 (f x y)) (hr : ∀ (H : Heap) (locs : List Loc) (cv : Array Slot) (rest : List Value) (cells slots : Nat) (x y : Int64), ¬ y = 0 → W p l e (zrm d b) s m args below meth c H locs cells slots Qs (F0 m n cv (.long (F x y) :: rest)) → W p l e (zrm d b) s m args below meth c H locs cells slots Qs (F0 m pc cv (.long y :: .long x :: rest)))
    (h : zlbinN f S k) (hk : ∀ S', k S' → zWS p l e s m args below meth c D ca A d μ b ad0 Qs n S') : zWS p l e s m args below meth c D ca A d μ b ad0 Qs pc S := by
  obtain ⟨ls, st, w⟩ := S
  intro H locs cv ad hs
  unfold zlbinN at h
  have hst := hs.2.2.2.2.2.1
  rcases st with _ | ⟨y | y | y | y, _ | ⟨x | x | x | x, st⟩⟩
  case cons.inr.inl.cons.inr.inl =>
    obtain ⟨h1, h2⟩ := zvo_t hst
    obtain ⟨h3, h4⟩ := zvo_t h2
    obtain ⟨h5, h6⟩ := zck_e h
    refine hr H locs cv _ _ _ (Int64.ofInt x) (Int64.ofInt y) (fun q => h5 ((zr64_eq h1 (y := 0) ⟨by decide, by decide⟩).mp q)) ?_
    rw [← hf]
    exact hk _ h6 H locs cv ad (hs.stk (zvo_L (hf2 x y) h4))
  all_goals exact absurd h id
theorem zs_lcm (hx : p.tables.exec = Jvm.exec) (hb : c.code = zcode μ) (hdg : decode (zcode μ) pc = .ok (.lcmp, 1)) (h : zlcm S k) (hk : ∀ S', k S' → zWS p l e s m args below meth c D ca A d μ b ad0 Qs (pc + 1) S') : zWS p l e s m args below meth c D ca A d μ b ad0 Qs pc S := by
  obtain ⟨ls, st, w⟩ := S
  intro H locs cv ad hs
  unfold zlcm at h
  have hst := hs.2.2.2.2.2.1
  rcases st with _ | ⟨y | y | y | y, _ | ⟨x | x | x | x, st⟩⟩
  case cons.inr.inl.cons.inr.inl =>
    obtain ⟨h1, h2⟩ := zvo_t hst
    obtain ⟨h3, h4⟩ := zvo_t h2
    have e1 : lg_cmp (Int64.ofInt x) (Int64.ofInt y) = Int32.ofInt (zcmp x y) := by
      unfold lg_cmp zcmp
      by_cases q1 : y < x
      · rw [if_pos q1, if_pos ((zr64_lt h1 h3).mpr q1)]; rfl
      · rw [if_neg q1, if_neg (fun q => q1 ((zr64_lt h1 h3).mp q))]
        by_cases q2 : x = y
        · rw [if_pos q2, if_pos ((zr64_eq h3 h1).mpr q2)]; rfl
        · rw [if_neg q2, if_neg (fun q => q2 ((zr64_eq h3 h1).mp q))]; rfl
    refine W.lcmp hx hb hdg ?_
    rw [e1]
    refine hk _ h H locs cv ad (hs.stk (zvo_I ?_ h4))
    unfold zcmp
    split
    · exact ⟨by decide, by decide⟩
    · split
      · exact ⟨by decide, by decide⟩
      · exact ⟨by decide, by decide⟩
  all_goals exact absurd h id
theorem zs_lng (hx : p.tables.exec = Jvm.exec) (hb : c.code = zcode μ) (hdg : decode (zcode μ) pc = .ok (.lneg, 1)) (h : zlng S k) (hk : ∀ S', k S' → zWS p l e s m args below meth c D ca A d μ b ad0 Qs (pc + 1) S') : zWS p l e s m args below meth c D ca A d μ b ad0 Qs pc S := by
  obtain ⟨ls, st, w⟩ := S
  intro H locs cv ad hs
  unfold zlng at h
  have hst := hs.2.2.2.2.2.1
  rcases st with _ | ⟨y | y | y | y, st⟩
  case cons.inr.inl =>
    obtain ⟨h1, h2⟩ := zvo_t hst
    have e1 : -(Int64.ofInt y) = Int64.ofInt (zwl (-y)) := by unfold zwl; rw [Int64.ofInt_toInt, Int64.ofInt_neg]
    refine lv_lneg hx hb hdg ?_
    rw [e1]
    exact hk _ h H locs cv ad (hs.stk (zvo_L (zr64_of _) h2))
  all_goals exact absurd h id
theorem zs_i2l (hx : p.tables.exec = Jvm.exec) (hb : c.code = zcode μ) (hdg : decode (zcode μ) pc = .ok (.i2l, 1)) (h : zi2l S k) (hk : ∀ S', k S' → zWS p l e s m args below meth c D ca A d μ b ad0 Qs (pc + 1) S') : zWS p l e s m args below meth c D ca A d μ b ad0 Qs pc S := by
  obtain ⟨ls, st, w⟩ := S
  intro H locs cv ad hs
  unfold zi2l at h
  have hst := hs.2.2.2.2.2.1
  rcases st with _ | ⟨y | y | y | y, st⟩
  case cons.inl =>
    obtain ⟨h1, h2⟩ := zvo_t hst
    have h6 : zr64 y := by unfold zvo zr32 at h1; unfold zr64; constructor <;> simp at h1 ⊢ <;> omega
    have e1 : (Int32.ofInt y).toInt64 = Int64.ofInt y := Int64.toInt_inj.mp (by rw [Int32.toInt_toInt64, zr32_t h1, zr64_t h6])
    refine lv_i2l hx hb hdg e1 ?_
    exact hk _ h H locs cv ad (hs.stk (zvo_L h6 h2))
  all_goals exact absurd h id
theorem zs_dup (hx : p.tables.exec = Jvm.exec) (hb : c.code = zcode μ) (hdg : decode (zcode μ) pc = .ok (.dup, 1)) (h : zdup S k) (hk : ∀ S', k S' → zWS p l e s m args below meth c D ca A d μ b ad0 Qs (pc + 1) S') : zWS p l e s m args below meth c D ca A d μ b ad0 Qs pc S := by
  obtain ⟨ls, st, w⟩ := S
  intro H locs cv ad hs
  unfold zdup at h
  have hst := hs.2.2.2.2.2.1
  rcases st with _ | ⟨y | y | y | y, st⟩
  case cons.inl =>
    obtain ⟨h1, h2⟩ := zvo_t hst
    exact lv_dup hx hb hdg rfl (hk _ h H locs cv ad (hs.stk (zvo_I h1 hst)))
  case cons.inr.inr.inl =>
    obtain ⟨h1, h2⟩ := zvo_t hst
    exact lv_dup hx hb hdg rfl (hk _ h H locs cv ad (hs.stk (zvo_R h1 hst)))
  all_goals exact absurd h id
theorem zs_du2 (hx : p.tables.exec = Jvm.exec) (hb : c.code = zcode μ) (hdg : decode (zcode μ) pc = .ok (.dup2, 1)) (h : zdu2 S k) (hk : ∀ S', k S' → zWS p l e s m args below meth c D ca A d μ b ad0 Qs (pc + 1) S') : zWS p l e s m args below meth c D ca A d μ b ad0 Qs pc S := by
  obtain ⟨ls, st, w⟩ := S
  intro H locs cv ad hs
  unfold zdu2 at h
  have hst := hs.2.2.2.2.2.1
  rcases st with _ | ⟨y | y | y | y, _ | ⟨x | x | x | x, st⟩⟩
  case cons.inl.cons.inr.inr.inl =>
    obtain ⟨h1, h2⟩ := zvo_t hst
    obtain ⟨h3, h4⟩ := zvo_t h2
    exact lv_dup2_11 hx hb hdg rfl rfl (hk _ h H locs cv ad (hs.stk (zvo_I h1 (zvo_R h3 hst))))
  all_goals exact absurd h id
theorem zs_pop (hx : p.tables.exec = Jvm.exec) (hb : c.code = zcode μ) (hdg : decode (zcode μ) pc = .ok (.pop, 1)) (h : zpop S k) (hk : ∀ S', k S' → zWS p l e s m args below meth c D ca A d μ b ad0 Qs (pc + 1) S') : zWS p l e s m args below meth c D ca A d μ b ad0 Qs pc S := by
  obtain ⟨ls, st, w⟩ := S
  intro H locs cv ad hs
  unfold zpop at h
  have hst := hs.2.2.2.2.2.1
  rcases st with _ | ⟨y | y | y | y, st⟩
  case cons.inl =>
    obtain ⟨h1, h2⟩ := zvo_t hst
    exact lv_pop hx hb hdg rfl (hk _ h H locs cv ad (hs.stk h2))
  case cons.inr.inr.inl =>
    obtain ⟨h1, h2⟩ := zvo_t hst
    exact lv_pop hx hb hdg rfl (hk _ h H locs cv ad (hs.stk h2))
  all_goals exact absurd h id
end ZS
