def zrv (rk : Nat) (ad : Nat → Nat) (r : Int) : Option Value := match rk with
  | 0 => none
  | 2 => some (.long (Int64.ofInt r))
  | 3 => some (.ref (ad r.toNat))
  | _ => some (.int (Int32.ofInt r))
def zro (rk n : Nat) (r : Int) : Prop := match rk with
  | 0 => True
  | 2 => zr64 r
  | 3 => r.toNat < n
  | _ => zr32 r
def zPo (D : va_G) (ca : Nat → ClassId) (A : Nat → Prop) (b : zB) (ad0 : Nat → Nat) (rk : Nat) (Q : Int → zW → Prop) : Array Value → State → Outcome → State → Prop := fun _ st oc t =>
  (∃ (r : Int) (w : zW) (ad : Nat → Nat), oc = .returned (zrv rk ad r) ∧ Q r w ∧ zro rk w.1.length r ∧ va_P D vwCl (zws ca ad w) t.heap ∧ va_D A (zws ca ad w) ∧ zok w ∧ w.1.length = b.1 + b.2.2.1 ∧ zsz w.1 = b.2.1 + b.2.2.2 ∧ ∀ k, k < b.1 → ad k = ad0 k) ∧ va_F A st t
def zPr (D : va_G) (ca : Nat → ClassId) (ad : Nat → Nat) (a : List zV) (w : zW) (sz : Nat) : Array Value → State → Prop := va_Pc (a.map (zcv ad)) (fun U => U.heap.size = sz ∧ va_P D vwCl (zws ca ad w) U.heap ∧ va_K D vwCl (ztys ca) U ∧ va_D (fun _ => True) (zws ca ad w) ∧ (∀ w ∈ znw, va_Nw w U) ∧ (va_AO RX2 U ∧ va_AO RX5 U) ∧ zok w ∧ ∀ v ∈ a, zvo w.1.length v)
def zbd (μ : Nat) (a : List zV) (w : zW) : zB := (w.1.length, zsz w.1, (zal μ a).1, (zal μ a).2)
/-- THE METHOD μ, called with a in the world w, d calls deep at most, ends; Q of its answer and of the world then -/
def zEv (d μ : Nat) (a : List zV) (w : zW) (Q : Int → zW → Prop) : Prop :=
  ∀ (l : Launch) (D : va_G) (ca : Nat → ClassId) (ad : Nat → Nat) (sz : Nat), Met l (zy μ) (zwd μ) (zrm d (zbd μ a w)) (zPr D ca ad a w sz) (zPo D ca (va_A (zws ca ad w) sz) (zbd μ a w) ad (zrk μ) Q) (zal μ a).1 (zal μ a).2 (va_A (zws ca ad w) sz)
/-- THE METHOD μ, at pc in the state S, comes to its end -/
def zEx (d μ : Nat) (b : zB) (Q : Int → zW → Prop) (pc : Nat) (S : zMS) : Prop :=
  (b.2.2.1 = 0 → b.2.2.2 = 0) → ∀ (p : Program) (l : Launch) (e : Env) (s : State) (m : MethodId) (args : Array Value) (below : List Frame) (meth : Method) (c : Code) (D : va_G) (ca : Nat → ClassId) (A : Nat → Prop) (ad0 : Nat → Nat), zCx p s m args meth c D ca A μ → zWS p l e s m args below meth c D ca A d μ b ad0 (MQ below (zPo D ca A b ad0 (zrk μ) Q) args s b.2.2.1 b.2.2.2 A) pc S
theorem zcat_eq {ad : Nat → Nat} : ∀ st : List zV, ((st.map (zcv ad)).map fun v => v.category).sum = zcat st
  | [] => rfl
  | v :: st => by
    rw [List.map_cons, List.map_cons, List.sum_cons, zcat_eq st]
    rcases v with x | x | x | x <;> rfl
theorem znw_isn {w : Jvm.Cond} (h : w ∈ znw) : ∃ a i x y, w = .methodLinkNest a i x y := by
  have h2 := (List.mem_filter.mp h).2
  unfold zisn at h2
  split at h2
  · exact ⟨_, _, _, _, rfl⟩
  · cases h2
section ZC
variable {p : Program} {l : Launch} {e : Env} {s : State} {m : MethodId} {args : Array Value} {below : List Frame} {meth : Method} {c : Code} {D : va_G} {ca : Nat → ClassId} {A : Nat → Prop} {d μ : Nat} {b : zB} {ad0 : Nat → Nat} {Qs : State → Prop}
variable {pc : Nat} {S : zMS} {k : zMS → Prop}
theorem zgood {μ' : Nat} (h : μ' < zmt.length) : GoodIn (zwd μ) (zwd μ') := by
  intro w hw
  rcases List.mem_cons.mp hw with rfl | hw
  · exact ⟨zwd_in (zchm_e h).1, good_of_word (zchm_e h).1.2⟩
  · exact ⟨List.mem_cons_of_mem _ hw, good_of_word (List.mem_filter.mp hw).2⟩
theorem zPr_blind {ad : Nat → Nat} {a : List zV} {w : zW} {sz : Nat} : FrameBlind (zPr D ca ad a w sz) := by
  intro av U g mk hq
  obtain ⟨h1, h2, h3, h4, h5, h6, h7, h8⟩ := hq
  exact ⟨h1, h2, h3, va_K.moved (u := U) (U := U.calling g mk av) (Vm.Alike.refl U.vm) h4, h5, fun w hw => by
    obtain ⟨a, i, x, y, rfl⟩ := znw_isn hw
    exact va_Nw.same (u := U) (U := U.calling g mk av) rfl rfl (h6 _ hw), ⟨va_AO.moved (u := U) (U := U.calling g mk av) (Vm.Alike.refl U.vm) h7.1, va_AO.moved (u := U) (U := U.calling g mk av) (Vm.Alike.refl U.vm) h7.2⟩, h8⟩
theorem zPr_at {ad : Nat → Nat} {a : List zV} {w : zW} {H : Heap} (hnw : ∀ w ∈ znw, va_Nw w s) (hao : va_AO RX2 s ∧ va_AO RX5 s) (hK : va_K D vwCl (ztys ca) s) (hP : va_P D vwCl (zws ca ad w) H) (hD : va_D A (zws ca ad w)) (hok : zok w) (ha : ∀ v ∈ a, zvo w.1.length v) : ∀ U : State, U.heap = H → s.WarmedH U.vm → zPr D ca ad a w H.size (a.map (zcv ad)).toArray U := by
  intro U hU hW
  exact ⟨rfl, by rw [hU], by rw [hU]; exact hP, va_K.moved hW.alike hK, hD.weaken (fun _ _ _ _ => trivial), fun w hw => by
    obtain ⟨a, i, x, y, rfl⟩ := znw_isn hw
    exact va_Nw.warmM hW (hnw _ hw), ⟨va_AO.moved hW.alike hao.1, va_AO.moved hW.alike hao.2⟩, hok, ha⟩
/-- behind a call -/
theorem zcb {rk mc ms : Nat} {Q : Int → zW → Prop} {w : zW} {b' : zB} {ad : Nat → Nat} {cv : Array Slot} {H : Heap} {locs : List Loc} {cells slots : Nat} {st0 : List Value} {st ls : List zV} {R : Room} {av : Array Value} {sz : Nat}
    (hr : va_Run p l e R s m args below meth c H locs cells slots mc ms (F0 m pc cv st0) (st.map (zcv ad)) (zPo D ca (va_A (zws ca ad w) sz) b' ad rk Q av) (va_A (zws ca ad w) sz)) (hsz : sz = H.size) (hA : ∀ q, s.heap.size ≤ q → A q) (hP : va_P D vwCl (zws ca ad w) H) (hD : va_D A (zws ca ad w)) (hS : va_S A s.heap H locs)
    (kk : ∀ (r : Int) (w' : zW) (ad' : Nat → Nat) (H1 : Heap) (locs1 : List Loc), Q r w' → zro rk w'.1.length r → va_P D vwCl (zws ca ad' w') H1 → va_D A (zws ca ad' w') → zok w' → w'.1.length = b'.1 + b'.2.2.1 → zsz w'.1 = b'.2.1 + b'.2.2.2 → (∀ k, k < b'.1 → ad' k = ad k) → va_S A s.heap H1 locs1 → W p l e R s m args below meth c H1 locs1 (cells + mc) (slots + ms) Qs (F0 m (pc + 3) cv ((zrv rk ad' r).toList ++ st.map (zcv ad)))) :
    W p l e R s m args below meth c H locs cells slots Qs (F0 m pc cv st0) := by
  subst hsz
  have hf : ∀ q, va_A (zws ca ad w) H.size q → A q := fun q hq => by
    rcases hq with ⟨k, e, hk⟩ | hq
    · exact hD.2 k (q, e) hk
    · exact hA q (Nat.le_trans hS.1 hq)
  intro T hT X
  obtain ⟨v, st₀, t, T', L, h0, X', hL, e1, e2, ⟨⟨r, w', ad', hv, k1, k2, k3, k4, k5, k6, k7, k8⟩, hz, hkk⟩, stp⟩ := hr T hT X
  cases hv
  rw [h0] at hz hkk
  obtain ⟨t2, a1, b1⟩ := kk r w' ad' T'.heap (locs ++ L) k1 k2 (by rw [e1]; exact k3) (k4.weaken (fun _ q _ h => hf q.1 h)) k5 k6 k7 k8
    ⟨Nat.le_trans hS.1 (by rw [e1]; exact hz), fun q h1 h2 => by rw [e1, hkk q (Nat.lt_of_lt_of_le h1 hS.1) (fun z => h2 (hf q z))]; exact hS.2.1 q h1 h2, fun q hq => by
      rcases List.mem_append.mp hq with h | h
      · exact hS.2.2 q h
      · exact hf _ (hL q h)⟩ T' rfl X'
  exact ⟨t2, stp t2 a1, b1⟩
theorem zrcv_e {σ : zSh} {kind ci : Nat} {a : List zV} {k : Prop} (h : zrcv σ kind ci a k) : k ∧ (kind = 0 → ∃ r as, a = zR r :: as ∧ zkd σ r = ci) ∧ (kind ≠ 1 → kind ≠ 3 → ∃ r as, a = zR r :: as) := by
  unfold zrcv at h
  split at h
  · exact ⟨h, fun h0 => (by cases h0), fun h1 => absurd rfl h1⟩
  · exact ⟨h, fun h0 => (by cases h0), fun _ h1 => absurd rfl h1⟩
  · split at h
    · next r as =>
      obtain ⟨h1, h2⟩ := zkq_e h
      exact ⟨h2, fun _ => ⟨r, as, rfl, h1⟩, fun _ _ => ⟨r, as, rfl⟩⟩
    · exact absurd h id
  · next h1 h3 h0 =>
    split at h
    · next r as => exact ⟨h, fun g => absurd g h0, fun _ _ => ⟨r, as, rfl⟩⟩
    · exact absurd h id
theorem zal_0 {μ : Nat} {a : List zV} (h : (zal μ a).1 = 0) : (zal μ a).2 = 0 := by
  unfold zal at h ⊢
  split at h
  · cases h
  · next h0 =>
    rw [if_neg h0]
    unfold zalT at h ⊢
    simp only [List.lookup] at h ⊢
    repeat' (split at h; · cases h)
    rfl
theorem zbud_e {b : zB} {n : Nat × Nat} {σ : zSh} {k : Prop} (h : zbud b n σ k) (h0 : n.1 = 0 → n.2 = 0) (hf : zfr b σ) : k ∧ σ.length + n.1 ≤ b.1 + b.2.2.1 ∧ zsz σ + n.2 ≤ b.2.1 + b.2.2.2 := by
  unfold zbud at h
  unfold zfr at hf
  split at h
  · next hn =>
    have := h0 hn
    exact ⟨h, by omega, by omega⟩
  · next hn =>
    obtain ⟨h1, h2⟩ := zck_e h
    exact ⟨h2, h1.1, h1.2⟩
end ZC
