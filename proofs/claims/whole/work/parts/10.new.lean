/-! new cells -/
theorem zsz_app : ∀ (σ : zSh) (e : Nat × Nat × List (Option Nat)), zsz (σ ++ [e]) = zsz σ + zsz1 e
  | [], e => by simp [zsz]
  | a :: σ, e => by simp [zsz, zsz_app σ e]; omega
theorem zap_at {σ : zSh} {e : Nat × Nat × List (Option Nat)} {k : Nat} (h : k < σ.length) : (σ ++ [e])[k]? = σ[k]? := List.getElem?_append_left h
theorem zap_last {σ : zSh} {e : Nat × Nat × List (Option Nat)} : (σ ++ [e])[σ.length]? = some e := by simp
theorem zcv_up {ad : Nat → Nat} {n q : Nat} {v : zV} (h : zvo n v) : zcv (va_up ad n q) v = zcv ad v := by
  rcases v with x | x | x | x
  · rfl
  · rfl
  · have h : x < n := h
    show Value.ref (va_up ad n q x) = Value.ref (ad x)
    rw [va_up_ne _ _ (by omega)]
  · rfl
theorem zrep_none {n j : Nat} : (((List.replicate n none : List (Option Nat)))[j]?).join = none := by
  rw [List.getElem?_replicate]
  split <;> rfl
section ZN
variable {p : Program} {l : Launch} {e : Env} {s : State} {m : MethodId} {args : Array Value} {below : List Frame} {meth : Method} {c : Code} {D : va_G} {ca : Nat → ClassId} {A : Nat → Prop} {d μ : Nat} {b : zB} {ad0 : Nat → Nat} {Qs : State → Prop}
variable {pc n : Nat} {S : zMS} {k : zMS → Prop}
/-- a cell more: the state behind it -/
theorem zst.new {H H1 : Heap} {locs : List Loc} {cv : Array Slot} {ad : Nat → Nat} {ls st st' : List zV} {σ : zSh} {M L L' : zM} {q nL : Nat} {x : va_E} {en : Nat × Nat × List (Option Nat)} (hs : zst D ca A s b ad0 nL H locs cv ad (ls, st, σ, M, L)) (hst : ∀ v ∈ st', zvo σ.length v)
    (he : (en.1 < 11 ∧ en.2.2.length = znf en.1 ∨ 20 ≤ en.1 ∧ en.1 < 25) ∧ (23 ≤ en.1 → en.2.2.length = en.2.1) ∧ en.2.1 ≤ 20000) (hno : ∀ j : Nat, (en.2.2[j]?).join = none) (hL : L' = L ∨ L' = zmz L σ.length) (hb1 : σ.length + 1 ≤ b.1 + b.2.2.1 ∧ zsz σ + zsz1 en ≤ b.2.1 + b.2.2.2)
    (hx : zce ca (va_up ad σ.length q) (σ ++ [en], zmz M σ.length, L') σ.length = x) (g1 : va_P D vwCl (zws ca ad (σ, M, L) ++ [(q, x)]) H1) (g2 : va_D A (zws ca ad (σ, M, L) ++ [(q, x)])) (g3 : va_S A s.heap H1 locs) :
    zst D ca A s b ad0 nL H1 locs cv (va_up ad σ.length q) (ls, zR σ.length :: st', σ ++ [en], zmz M σ.length, L') ∧ ∀ v ∈ st', zcv (va_up ad σ.length q) v = zcv ad v := by
  obtain ⟨p1, p2, p3, p4, p5, p6, p7, p8, p9⟩ := hs
  have hlen : (σ ++ [en]).length = σ.length + 1 := by simp
  have heq : zws ca ad (σ, M, L) ++ [(q, x)] = zws ca (va_up ad σ.length q) (σ ++ [en], zmz M σ.length, L') := by
    refine zws_push hlen (fun j hj => ⟨va_up_ne _ _ (Nat.ne_of_lt hj), ?_⟩) ⟨va_up_self _ _ _, hx⟩
    have hj : j < σ.length := hj
    refine zce_congr ?_ (fun i => ?_) ?_ (fun i => ?_) (fun i => ?_)
    · unfold zkd; dsimp only; rw [zap_at hj]
    · have e1 : zrf (σ ++ [en]) j i = zrf σ j i := by unfold zrf; rw [zap_at hj]
      dsimp only
      rw [e1]
      cases hz : zrf σ j i with
      | none => rfl
      | some u =>
        have hu := p4.2.2.1 j i u hz
        dsimp only at hu
        rw [Option.map_some, Option.map_some, va_up_ne _ _ (Nat.ne_of_lt hu)]
    · unfold zln; dsimp only; rw [zap_at hj]
    · show zmz M σ.length j i = M j i
      unfold zmz; rw [if_neg (Nat.ne_of_lt hj)]
    · show L' j i = L j i
      rcases hL with rfl | rfl
      · rfl
      · unfold zmz; rw [if_neg (Nat.ne_of_lt hj)]
  rw [heq] at g1 g2
  have up : ∀ v : zV, zvo σ.length v → zvo (σ ++ [en]).length v := by
    intro v hv
    rcases v with x | x | x | x
    · exact hv
    · exact hv
    · have hv : x < σ.length := hv
      show x < (σ ++ [en]).length
      omega
    · exact hv
  refine ⟨⟨g1, g2, g3, ⟨zmz_r p4.1 zr32_0, ?_, ?_, ?_⟩, fun v hv => up v (p5 v hv), ?_, ?_, ?_, ?_⟩, fun v hv => zcv_up (hst v hv)⟩
  · rcases hL with rfl | rfl
    · exact p4.2.1
    · exact zmz_r p4.2.1 ⟨by decide, by decide⟩
  · intro a i u hu
    show u < (σ ++ [en]).length
    have hu : zrf (σ ++ [en]) a i = some u := hu
    by_cases ha : a < σ.length
    · have e1 : zrf (σ ++ [en]) a i = zrf σ a i := by unfold zrf; rw [zap_at ha]
      rw [e1] at hu
      have := p4.2.2.1 a i u hu
      dsimp only at this
      omega
    · by_cases ha2 : a = σ.length
      · subst ha2
        unfold zrf at hu
        rw [zap_last] at hu
        dsimp only at hu
        rw [hno] at hu
        cases hu
      · unfold zrf at hu
        rw [List.getElem?_eq_none (by omega)] at hu
        cases hu
  · intro a e he2
    have he2 : (σ ++ [en])[a]? = some e := he2
    by_cases ha : a < σ.length
    · rw [zap_at ha] at he2
      exact p4.2.2.2 a e he2
    · by_cases ha2 : a = σ.length
      · subst ha2
        rw [zap_last] at he2
        cases he2
        exact he
      · rw [List.getElem?_eq_none (by omega)] at he2
        cases he2
  · intro v hv
    rcases List.mem_cons.mp hv with rfl | hv
    · show σ.length < (σ ++ [en]).length
      omega
    · exact up v (hst v hv)
  · refine ⟨p7.1, p7.2.1, fun j v hj hn => ?_⟩
    rw [zcv_up (p5 v (List.mem_of_getElem? hj))]
    exact p7.2.2 j v hj hn
  · have h8 : zfr b σ := p8
    unfold zfr at h8 ⊢
    dsimp only
    rw [zsz_app, hlen]
    omega
  · intro a ha
    have h8 : zfr b σ := p8
    unfold zfr at h8
    rw [va_up_ne _ _ (by omega)]
    exact p9 a ha
theorem zmap_up {ad : Nat → Nat} {n q : Nat} {st : List zV} (h : ∀ v ∈ st, zcv (va_up ad n q) v = zcv ad v) : st.map (zcv (va_up ad n q)) = st.map (zcv ad) := List.map_congr_left h
theorem zs_new {idx ci nf pl : Nat} (C0 : zCx p s m args meth c D ca A μ) (hdg : decode (zcode μ) pc = .ok (.new idx, 3)) (hch : zcln vwCl[ci]? (zy μ).cls idx pl nf = true) (h : znew b ci nf S k) (hk : ∀ S', k S' → zWS p l e s m args below meth c D ca A d μ b ad0 Qs (pc + 3) S') : zWS p l e s m args below meth c D ca A d μ b ad0 Qs pc S := by
  obtain ⟨hx, hb, hml, hr, hown, hlocks, hin, hts, hnw, hao, hK, hA⟩ := C0
  obtain ⟨ls, st, σ, M, L⟩ := S
  unfold zcln at hch
  cases hq : vwCl[ci]? with
  | none => rw [hq] at hch; cases hch
  | some q0 =>
    rw [hq] at hch
    obtain ⟨C, T, N⟩ := q0
    obtain ⟨k1, k2⟩ := zat_e2 hch
    rw [decide_eq_true_eq] at k1
    dsimp only at k1 k2
    obtain ⟨q1, q2, q3, q4, q5, ty0, q6, q7⟩ := zclp_all _ _ hq
    have hci := zci_lt hq
    dsimp only at q1 q2 q3 q4 q5 q6 q7
    intro H locs cv ad hs
    unfold znew at h
    obtain ⟨⟨h1, h2⟩, h3⟩ := zck_e h
    dsimp only at h1 h2 h3
    have h8 : zfr b σ := hs.2.2.2.2.2.2.2.1
    unfold zfr at h8
    have hkd : zkd (σ ++ [(ci, 0, List.replicate nf none)]) σ.length = ci := by unfold zkd; rw [zap_last]
    have hrf : ∀ j, zrf (σ ++ [(ci, 0, List.replicate nf none)]) σ.length j = none := by intro j; unfold zrf; rw [zap_last]; exact zrep_none
    have hsz : zsz1 (ci, 0, List.replicate nf none) = nf := by unfold zsz1; rw [if_pos (by show ci < 20; omega)]; show znf ci = nf; omega
    have hv : ∀ (ad' : Nat → Nat) (j : Nat), j < N → defaultValue (ty0 j) = zfv ad' (σ ++ [(ci, 0, List.replicate nf none)]) (zmz M σ.length) ci σ.length j := by
      intro ad' j hj
      unfold zfv
      rw [hrf]
      have hz : zmz M σ.length σ.length j = 0 := by unfold zmz; rw [if_pos rfl]
      rw [hz]
      rcases (q7 j hj).2 with ⟨t1, t2⟩ | ⟨t1, t2⟩ | ⟨t1, t2⟩
      · rw [if_neg (by omega), t2]; rfl
      · rw [if_neg (by omega), t2]; rfl
      · rw [if_pos t1]
        cases hty : ty0 j <;> rw [hty] at t2 <;> first | (simp [FieldType.isReference] at t2; done) | rfl
    refine va_new (ci := ci) (fs := (List.range (znf ci)).map (zfv ad (σ ++ [(ci, 0, List.replicate nf none)]) (zmz M σ.length) ci σ.length)) (C := C) (T := T) (N := N) hx hb hts (fun u hu => zwd_in (q1 u hu)) ty0 q6 hown (hts _ (zwd_in (zat_e k2))) (hts _ (zwd_in q2)) (hts _ (zwd_in q3)) hK hs.1 hs.2.1 hs.2.2.1 hA hq ?_ ?_ ?_ hdg (fun q H1 g1 g2 g3 => ?_)
    · intro j hj
      rw [hv ad j hj]
      unfold vp_V
      rw [List.getD_eq_getElem?_getD, List.getElem?_map, List.getElem?_range (by omega)]
      rfl
    · show σ.length - b.1 + 1 ≤ b.2.2.1; omega
    · show zsz σ - b.2.1 + N ≤ b.2.2.2; omega
    · have hxx : zce ca (va_up ad σ.length q) (σ ++ [(ci, 0, List.replicate nf none)], zmz M σ.length, L) σ.length = .inr (ci, (List.range (znf ci)).map (zfv ad (σ ++ [(ci, 0, List.replicate nf none)]) (zmz M σ.length) ci σ.length)) := by
        have hfv : zfv (va_up ad σ.length q) (σ ++ [(ci, 0, List.replicate nf none)]) (zmz M σ.length) ci σ.length = zfv ad (σ ++ [(ci, 0, List.replicate nf none)]) (zmz M σ.length) ci σ.length := zfv_congr (fun j => by rw [hrf]; rfl) (fun j => rfl)
        rw [zce_obj hkd (by omega)]
        dsimp only
        rw [hfv]
      obtain ⟨n1, n2⟩ := hs.new (en := (ci, 0, List.replicate nf none)) hs.2.2.2.2.2.1 ⟨Or.inl ⟨hci, by show (List.replicate nf none).length = znf ci; rw [List.length_replicate, q4, k1]⟩, fun g => by dsimp only at g; omega, Nat.zero_le _⟩ (fun j => zrep_none) (Or.inl rfl) (by rw [hsz]; exact ⟨h1, h2⟩) hxx g1 g2 g3
      have e1 := hk _ h3 H1 locs cv _ n1
      dsimp only at e1
      rw [zsz_app, hsz, List.map_cons, zmap_up n2] at e1
      have e2 : (σ ++ [(ci, 0, List.replicate nf none)]).length - b.1 = σ.length - b.1 + 1 := by simp; omega
      have e3 : zsz σ + nf - b.2.1 = zsz σ - b.2.1 + N := by omega
      rw [e2, e3] at e1
      have e4 : zcv (va_up ad σ.length q) (zR σ.length) = .ref q := by show Value.ref (va_up ad σ.length q σ.length) = _; rw [va_up_self]
      rw [e4] at e1
      exact e1
theorem zra_eq {U : State} {ty : FieldType} {c1 c2 : ClassId} (h1 : va_RA U c1 ty) (h2 : va_RA U c2 ty) : c1 = c2 := by
  cases ty with
  | object C =>
    obtain ⟨-, -, -, -, -, a1⟩ := h1
    obtain ⟨-, -, -, -, -, a2⟩ := h2
    exact Option.some.inj (a1.symm.trans a2)
  | _ => exact Option.some.inj (Eq.trans (Eq.symm h1) h2)
theorem zs_nwa_core {t : Nat} {x : Int} {ls st : List zV} {σ : zSh} {M L : zM} {H : Heap} {locs : List Loc} {cv : Array Slot} {ad : Nat → Nat} {q : Nat} {H1 : Heap} {N' pc' : Nat} {xa : va_E} (hs : zst D ca A s b ad0 (zmaxL μ) H locs cv ad (ls, zI x :: st, σ, M, L)) (ht : 20 ≤ t ∧ t < 25) (h0 : 0 ≤ x ∧ x ≤ 20000) (h1 : σ.length + 1 ≤ b.1 + b.2.2.1 ∧ zsz σ + x.toNat ≤ b.2.1 + b.2.2.2) (hN : N' = x.toNat)
    (hxx : zce ca (va_up ad σ.length q) (σ ++ [(t, x.toNat, if 23 ≤ t then List.replicate x.toNat none else [])], zmz M σ.length, zmz L σ.length) σ.length = xa)
    (g1 : va_P D vwCl (zws ca ad (σ, M, L) ++ [(q, xa)]) H1) (g2 : va_D A (zws ca ad (σ, M, L) ++ [(q, xa)])) (g3 : va_S A s.heap H1 locs)
    (hk : zWS p l e s m args below meth c D ca A d μ b ad0 Qs pc' (ls, zR σ.length :: st, σ ++ [(t, x.toNat, if 23 ≤ t then List.replicate x.toNat none else [])], zmz M σ.length, zmz L σ.length)) :
    W p l e (zrm d b) s m args below meth c H1 locs (σ.length - b.1 + 1) (zsz σ - b.2.1 + N') Qs (F0 m pc' cv (.ref q :: st.map (zcv ad))) := by
  have h8 : zfr b σ := hs.2.2.2.2.2.2.2.1
  unfold zfr at h8
  have hsz : zsz1 (t, x.toNat, if 23 ≤ t then List.replicate x.toNat none else []) = x.toNat := by unfold zsz1; rw [if_neg (by show ¬ t < 20; omega)]
  obtain ⟨n1, n2⟩ := hs.new (en := (t, x.toNat, if 23 ≤ t then List.replicate x.toNat none else [])) (L' := zmz L σ.length) (zvo_t hs.2.2.2.2.2.1).2 ⟨Or.inr ht, fun g => by dsimp only at g ⊢; rw [if_pos g, List.length_replicate], by dsimp only; omega⟩ (fun j => by
    dsimp only
    split
    · exact zrep_none
    · rfl) (Or.inr rfl) (by rw [hsz]; exact h1) hxx g1 g2 g3
  have e1 := hk H1 locs cv _ n1
  dsimp only at e1
  rw [zsz_app, hsz, List.map_cons, zmap_up n2] at e1
  have e2 : (σ ++ [(t, x.toNat, if 23 ≤ t then List.replicate x.toNat none else [])]).length - b.1 = σ.length - b.1 + 1 := by simp; omega
  have e3 : zsz σ + x.toNat - b.2.1 = zsz σ - b.2.1 + N' := by omega
  rw [e2, e3] at e1
  have e4 : zcv (va_up ad σ.length q) (zR σ.length) = .ref q := by show Value.ref (va_up ad σ.length q σ.length) = _; rw [va_up_self]
  rw [e4] at e1
  exact e1
theorem zx_nonneg {x : Int} (hx : zr32 x) (h0 : 0 ≤ x) : ¬ Int32.ofInt x < 0 := fun q => by
  have := (zr32_lt hx zr32_0).mp q
  omega
theorem zs_nwa {aty : ArrayType} {t : Nat} (C0 : zCx p s m args meth c D ca A μ) (hdg : decode (zcode μ) pc = .ok (.newarray aty, 2)) (hch : aty = .int ∧ t = 20 ∨ aty = .boolean ∧ t = 21 ∨ aty = .long ∧ t = 22) (h : znwa b t S k) (hk : ∀ S', k S' → zWS p l e s m args below meth c D ca A d μ b ad0 Qs (pc + 2) S') : zWS p l e s m args below meth c D ca A d μ b ad0 Qs pc S := by
  obtain ⟨hx, hb, hml, hr, hown, hlocks, hin, hts, hnw, hao, hK, hA⟩ := C0
  obtain ⟨ls, st, σ, M, L⟩ := S
  unfold znwa at h
  rcases st with _ | ⟨x | x | x | x, st⟩
  case cons.inl =>
    obtain ⟨h0, h⟩ := zck_e h
    obtain ⟨h1, h3⟩ := zck_e h
    dsimp only at h1 h3
    intro H locs cv ad hs
    have h8 : zfr b σ := hs.2.2.2.2.2.2.2.1
    unfold zfr at h8
    obtain ⟨hx32, -⟩ := zvo_t hs.2.2.2.2.2.1
    have hx32 : zr32 x := hx32
    have hk' := hk _ h3
    have hlast : ∀ en : Nat × Nat × List (Option Nat), zln (σ ++ [en]) σ.length = (en.2.1 : Int) := by intro en; unfold zln; rw [zap_last]
    have hkd : ∀ en : Nat × Nat × List (Option Nat), zkd (σ ++ [en]) σ.length = en.1 := by intro en; unfold zkd; rw [zap_last]
    have hz : ∀ (F : zM) (j : Nat), zmz F σ.length σ.length j = 0 := by intro F j; unfold zmz; rw [if_pos rfl]
    rcases hch with ⟨rfl, rfl⟩ | ⟨rfl, rfl⟩ | ⟨rfl, rfl⟩
    · refine va_newa (atype := .int) (ty := .int) (N' := x.toNat) (a0 := (x.toNat, .inl (fun _ => 0))) hx hb (hts _ (zwd_in ⟨List.mem_of_getElem? (i := 84) (by decide +kernel), rfl⟩)) rfl hK hs.1 hs.2.1 hs.2.2.1 hA (fun cA => rfl) (zx_nonneg hx32 h0.1) (zr32_n hx32) (by show x.toNat * 4 ≤ 536870912; omega) (by show σ.length - b.1 + 1 ≤ b.2.2.1; omega) (by show zsz σ - b.2.1 + x.toNat ≤ b.2.2.2; omega) hdg (fun q cA H1 gK g1 g2 g3 => ?_)
      have hcA : cA = ca 20 := zra_eq (gK.2 5 (cA, .int) rfl).2 (hK.2 0 (ca 20, .int) rfl).2
      subst hcA
      refine zs_nwa_core hs ⟨by omega, by omega⟩ h0 h1 rfl ?_ g1 g2 g3 hk'
      rw [zce_i (hkd _) (Or.inl rfl)]
      dsimp only
      rw [hlast, funext (fun j => congrArg Int32.ofInt (hz M j))]
      rfl
    · refine va_newa (atype := .boolean) (ty := .boolean) (N' := x.toNat) (a0 := (x.toNat, .inl (fun _ => 0))) hx hb (hts _ (zwd_in ⟨List.mem_of_getElem? (i := 178) (by decide +kernel), rfl⟩)) rfl hK hs.1 hs.2.1 hs.2.2.1 hA (fun cA => rfl) (zx_nonneg hx32 h0.1) (zr32_n hx32) (by show x.toNat * 1 ≤ 536870912; omega) (by show σ.length - b.1 + 1 ≤ b.2.2.1; omega) (by show zsz σ - b.2.1 + x.toNat ≤ b.2.2.2; omega) hdg (fun q cA H1 gK g1 g2 g3 => ?_)
      have hcA : cA = ca 21 := zra_eq (gK.2 5 (cA, .boolean) rfl).2 (hK.2 1 (ca 21, .boolean) rfl).2
      subst hcA
      refine zs_nwa_core hs ⟨by omega, by omega⟩ h0 h1 rfl ?_ g1 g2 g3 hk'
      rw [zce_i (hkd _) (Or.inr rfl)]
      dsimp only
      rw [hlast, funext (fun j => congrArg Int32.ofInt (hz M j))]
      rfl
    · refine va_newa (atype := .long) (ty := .long) (N' := x.toNat) (a0 := (x.toNat, .inr (.inl (fun _ => 0)))) hx hb (hts _ (zwd_in ⟨List.mem_of_getElem? (i := 228) (by decide +kernel), rfl⟩)) rfl hK hs.1 hs.2.1 hs.2.2.1 hA (fun cA => rfl) (zx_nonneg hx32 h0.1) (zr32_n hx32) (by show x.toNat * 8 ≤ 536870912; omega) (by show σ.length - b.1 + 1 ≤ b.2.2.1; omega) (by show zsz σ - b.2.1 + x.toNat ≤ b.2.2.2; omega) hdg (fun q cA H1 gK g1 g2 g3 => ?_)
      have hcA : cA = ca 22 := zra_eq (gK.2 5 (cA, .long) rfl).2 (hK.2 2 (ca 22, .long) rfl).2
      subst hcA
      refine zs_nwa_core hs ⟨by omega, by omega⟩ h0 h1 rfl ?_ g1 g2 g3 hk'
      rw [zce_l (hkd _)]
      dsimp only
      rw [hlast, funext (fun j => congrArg Int64.ofInt (hz L j))]
      rfl
  all_goals exact absurd h id
theorem zs_ana {idx t : Nat} {C : String} (C0 : zCx p s m args meth c D ca A μ) (hdg : decode (zcode μ) pc = .ok (.anewarray idx, 3)) (hch : t = 23 ∧ C = RX2 ∨ t = 24 ∧ C = RX5) (hw : Jvm.Cond.classLink (zy μ).cls idx C ∈ zwd μ) (h : znwa b t S k) (hk : ∀ S', k S' → zWS p l e s m args below meth c D ca A d μ b ad0 Qs (pc + 3) S') : zWS p l e s m args below meth c D ca A d μ b ad0 Qs pc S := by
  obtain ⟨hx, hb, hml, hr, hown, hlocks, hin, hts, hnw, hao, hK, hA⟩ := C0
  obtain ⟨ls, st, σ, M, L⟩ := S
  unfold znwa at h
  rcases st with _ | ⟨x | x | x | x, st⟩
  case cons.inl =>
    obtain ⟨h0, h⟩ := zck_e h
    obtain ⟨h1, h3⟩ := zck_e h
    dsimp only at h1 h3
    intro H locs cv ad hs
    have h8 : zfr b σ := hs.2.2.2.2.2.2.2.1
    unfold zfr at h8
    obtain ⟨hx32, -⟩ := zvo_t hs.2.2.2.2.2.1
    have hx32 : zr32 x := hx32
    have hk' := hk _ h3
    have hlast : ∀ en : Nat × Nat × List (Option Nat), zln (σ ++ [en]) σ.length = (en.2.1 : Int) := by intro en; unfold zln; rw [zap_last]
    have hkd : ∀ en : Nat × Nat × List (Option Nat), zkd (σ ++ [en]) σ.length = en.1 := by intro en; unfold zkd; rw [zap_last]
    have hrf : ∀ (t n j : Nat), zrf (σ ++ [(t, n, List.replicate n none)]) σ.length j = none := by intro t n j; unfold zrf; rw [zap_last]; exact zrep_none
    rcases hch with ⟨rfl, rfl⟩ | ⟨rfl, rfl⟩
    · refine va_newq (N' := x.toNat) hx hb hown (hts _ hw) hao.1 hK hs.1 hs.2.1 hs.2.2.1 hA (zx_nonneg hx32 h0.1) (zr32_n hx32) (by omega) (by show σ.length - b.1 + 1 ≤ b.2.2.1; omega) (by show zsz σ - b.2.1 + x.toNat ≤ b.2.2.2; omega) hdg (fun q cA H1 gK g1 g2 g3 => ?_)
      have hcA : cA = ca 23 := zra_eq (gK.2 5 (cA, .object RX2) rfl).2 (hK.2 3 (ca 23, .object RX2) rfl).2
      subst hcA
      refine zs_nwa_core hs ⟨by omega, by omega⟩ h0 h1 rfl ?_ g1 g2 g3 hk'
      rw [zce_q (hkd _) (Or.inl rfl)]
      dsimp only
      rw [hlast, if_pos (by omega), funext (fun j => congrArg (Option.map (va_up ad σ.length q)) (hrf 23 x.toNat j))]
      rfl
    · refine va_newq (N' := x.toNat) hx hb hown (hts _ hw) hao.2 hK hs.1 hs.2.1 hs.2.2.1 hA (zx_nonneg hx32 h0.1) (zr32_n hx32) (by omega) (by show σ.length - b.1 + 1 ≤ b.2.2.1; omega) (by show zsz σ - b.2.1 + x.toNat ≤ b.2.2.2; omega) hdg (fun q cA H1 gK g1 g2 g3 => ?_)
      have hcA : cA = ca 24 := zra_eq (gK.2 5 (cA, .object RX5) rfl).2 (hK.2 4 (ca 24, .object RX5) rfl).2
      subst hcA
      refine zs_nwa_core hs ⟨by omega, by omega⟩ h0 h1 rfl ?_ g1 g2 g3 hk'
      rw [zce_q (hkd _) (Or.inr rfl)]
      dsimp only
      rw [hlast, if_pos (by omega), funext (fun j => congrArg (Option.map (va_up ad σ.length q)) (hrf 24 x.toNat j))]
      rfl
  all_goals exact absurd h id
theorem zs_obj {idx : Nat} (C0 : zCx p s m args meth c D ca A μ) (hd : 0 < d) (hdg : decode (zcode μ) pc = .ok (.invokespecial idx, 3)) (hw : Jvm.Cond.methodLink (zy μ).cls idx objectInit ∈ zwd μ) (hw2 : Jvm.Cond.instanceMethod objectInit ∈ zwd μ) (hw3 : Jvm.Cond.code objectInit ⟨#[0xb1]⟩ 1 none ∈ zwd μ) (h : zobj S k) (hk : ∀ S', k S' → zWS p l e s m args below meth c D ca A d μ b ad0 Qs (pc + 3) S') : zWS p l e s m args below meth c D ca A d μ b ad0 Qs pc S := by
  obtain ⟨hx, hb, hml, hr, hown, hlocks, hin, hts, hnw, hao, hK, hA⟩ := C0
  obtain ⟨ls, st, w⟩ := S
  unfold zobj at h
  rcases st with _ | ⟨y | y | y | y, st⟩
  case cons.inr.inr.inl =>
    intro H locs cv ad hs
    obtain ⟨h1, h2⟩ := zvo_t hs.2.2.2.2.2.1
    obtain ⟨h9, h⟩ := zkb_e h
    have h9 := Nat.le_of_ble_eq_true h9
    have hcat : ∀ st : List zV, ((st.map (zcv ad)).map fun v => v.category).sum = zcat st := by
      intro st
      induction st with
      | nil => rfl
      | cons v st ih =>
        rw [List.map_cons, List.map_cons, List.sum_cons, ih]
        rcases v with x | x | x | x <;> rfl
    refine W.objInit hx hb hown (hts _ hw) (hts _ hw2) (hts _ hw3) rfl (by rw [hml]; exact hs.2.2.2.2.2.2.1.1) rfl hdg (by show 1 ≤ d; omega) ?_ (hk _ h H locs cv ad (hs.stk h2))
    have := lv_room (m := m) (pc := pc) (ls := cv) (rest := []) (st := st.map (zcv ad)) (by rw [hcat]; omega)
    show _ ≤ 200 * d
    have hmr : (F0 m pc cv (((Sum.inr (Sum.inr (Sum.inl y))) :: st).map (zcv ad))).monitorRoom = (F0 m pc cv []).monitorRoom := rfl
    rw [hmr]
    omega
  all_goals exact absurd h id
end ZN
