/-! instructions of the heap -/
theorem zce_obj {ca : Nat → ClassId} {ad : Nat → Nat} {w : zW} {k ci : Nat} (h : zkd w.1 k = ci) (hc : ci < 20) : zce ca ad w k = .inr (ci, (List.range (znf ci)).map (zfv ad w.1 w.2.1 ci k)) := by
  unfold zce; rw [h, if_pos hc]
theorem zce_i {ca : Nat → ClassId} {ad : Nat → Nat} {w : zW} {k t : Nat} (h : zkd w.1 k = t) (ht : t = 20 ∨ t = 21) : zce ca ad w k = .inl (ca t, (zln w.1 k).toNat, .inl (fun j => Int32.ofInt (w.2.1 k j))) := by
  unfold zce; rw [h, if_neg (by omega), if_neg (by omega), if_pos (by omega)]
theorem zce_l {ca : Nat → ClassId} {ad : Nat → Nat} {w : zW} {k : Nat} (h : zkd w.1 k = 22) : zce ca ad w k = .inl (ca 22, (zln w.1 k).toNat, .inr (.inl (fun j => Int64.ofInt (w.2.2 k j)))) := by
  unfold zce; rw [h, if_neg (by omega), if_pos rfl]
theorem zce_q {ca : Nat → ClassId} {ad : Nat → Nat} {w : zW} {k t : Nat} (h : zkd w.1 k = t) (ht : t = 23 ∨ t = 24) : zce ca ad w k = .inl (ca t, (zln w.1 k).toNat, .inr (.inr (.inr (.inr (fun j => (zrf w.1 k j).map ad))))) := by
  unfold zce; rw [h, if_neg (by omega), if_neg (by omega), if_neg (by omega)]
theorem zfv_congr {ad ad' : Nat → Nat} {σ σ' : zSh} {M M' : zM} {ci k : Nat} (h2 : ∀ j, (zrf σ' k j).map ad' = (zrf σ k j).map ad) (h4 : ∀ j, M' k j = M k j) : zfv ad' σ' M' ci k = zfv ad σ M ci k := by
  funext j
  unfold zfv
  rw [h2 j, h4 j]
theorem zce_congr {ca : Nat → ClassId} {ad ad' : Nat → Nat} {w w' : zW} {k : Nat} (h1 : zkd w'.1 k = zkd w.1 k) (h2 : ∀ j, (zrf w'.1 k j).map ad' = (zrf w.1 k j).map ad) (h3 : zln w'.1 k = zln w.1 k) (h4 : ∀ j, w'.2.1 k j = w.2.1 k j) (h5 : ∀ j, w'.2.2 k j = w.2.2 k j) : zce ca ad' w' k = zce ca ad w k := by
  unfold zce
  rw [h1, h3, zfv_congr h2 h4, funext (fun j => congrArg Int32.ofInt (h4 j)), funext (fun j => congrArg Int64.ofInt (h5 j)), funext h2]
theorem zmap_set {α : Type} {n j : Nat} {f g : Nat → α} {v : α} (hj : j < n) (hv : g j = v) (ho : ∀ i, i ≠ j → g i = f i) : ((List.range n).map f).set j v = (List.range n).map g := by
  apply List.ext_getElem?
  intro i
  rw [List.getElem?_set, List.length_map, List.length_range]
  by_cases hi : i < n
  · by_cases hij : j = i
    · subst hij
      rw [if_pos rfl, if_pos hj, List.getElem?_map, List.getElem?_range hj, ← hv]
      rfl
    · rw [if_neg hij, List.getElem?_map, List.getElem?_map, List.getElem?_range hi]
      simp only [Option.map_some]
      rw [ho i (Ne.symm hij)]
  · rw [if_neg (by omega), List.getElem?_eq_none (by simp; omega), List.getElem?_eq_none (by simp; omega)]
theorem zat_e2 {P Q : Bool} (h : (P && Q) = true) : P = true ∧ Q = true := by rw [Bool.and_eq_true] at h; exact h
/-- what a getfield, a putfield of the code links -/
theorem zchf_e {μ k : Nat} {r : List Nat} {put : Bool} (h : zchf μ k r put = true) : ∃ (C : String) (T : u_T) (N : Nat), vwCl[r.getD 0 0]? = some (C, T, N) ∧ r.getD 1 0 < N ∧ (Jvm.Cond.fieldLink (zy μ).cls k C (T (r.getD 1 0)).2.1 (T (r.getD 1 0)).2.2.1) ∈ zwd μ ∧ r.getD 3 0 = zft (r.getD 0 0) (r.getD 1 0) ∧ (put = true → (T (r.getD 1 0)).2.2.2 = true → (zy μ).name = "<init>" ∧ C = (zy μ).cls) := by
  unfold zchf at h
  obtain ⟨h1, h2⟩ := zat_e2 h
  rw [decide_eq_true_eq] at h1
  unfold zclf at h2
  cases hq : vwCl[r.getD 0 0]? with
  | none => rw [hq] at h2; cases h2
  | some q =>
    rw [hq] at h2
    obtain ⟨C, T, N⟩ := q
    obtain ⟨h3, h4⟩ := zat_e2 h2
    obtain ⟨h5, h6⟩ := zat_e2 h3
    rw [decide_eq_true_eq] at h5
    refine ⟨C, T, N, rfl, h5, zwd_in (zat_e h6), h1, fun hp hf => ?_⟩
    subst hp
    dsimp only at h4
    rw [hf] at h4
    simp at h4
    exact h4
theorem zci_lt {ci : Nat} {q : vw_C} (h : vwCl[ci]? = some q) : ci < 11 := (List.getElem?_eq_some_iff.mp h).1
theorem zin_of {i : Int} {n : Int} (hi : zr32 i) (h : 0 ≤ i ∧ i < n) : vp_in (Int32.ofInt i) n.toNat := vp_in_iff.mpr (by rw [zr32_t hi]; omega)
section ZH
variable {p : Program} {l : Launch} {e : Env} {s : State} {m : MethodId} {args : Array Value} {below : List Frame} {meth : Method} {c : Code} {D : va_G} {ca : Nat → ClassId} {A : Nat → Prop} {d μ : Nat} {b : zB} {ad0 : Nat → Nat} {Qs : State → Prop}
variable {pc n : Nat} {S : zMS} {k : zMS → Prop}
theorem zs_gf {r : List Nat} {idx : Nat} (C0 : zCx p s m args meth c D ca A μ) (hdg : decode (zcode μ) pc = .ok (.getfield idx, 3)) (hch : zchf μ idx r false = true) (h : zgf (r.getD 0 0) (r.getD 1 0) (r.getD 3 0) S k) (hk : ∀ S', k S' → zWS p l e s m args below meth c D ca A d μ b ad0 Qs (pc + 3) S') : zWS p l e s m args below meth c D ca A d μ b ad0 Qs pc S := by
  obtain ⟨hx, hb, hml, hr, hown, hlocks, hin, hts, hnw, hao, hK, hA⟩ := C0
  obtain ⟨C, T, N, hcl, hj, hw, hty, -⟩ := zchf_e hch
  obtain ⟨q1, -, -, q4, q5, ty0, q6, q7⟩ := zclp_all _ _ hcl
  obtain ⟨ls, st, w⟩ := S
  intro H locs cv ad hs
  unfold zgf at h
  have hst := hs.2.2.2.2.2.1
  rcases st with _ | ⟨y | y | y | y, st⟩
  case cons.inr.inr.inl =>
    obtain ⟨h1, h2⟩ := zvo_t hst
    obtain ⟨h3, h4⟩ := zkq_e h
    dsimp only at h3
    have hci := zci_lt hcl
    have hcell : (zws ca ad w)[y]? = some (ad y, .inr (r.getD 0 0, (List.range (znf (r.getD 0 0))).map (zfv ad w.1 w.2.1 (r.getD 0 0) y))) := by
      rw [zws_at h1, zce_obj h3 (by omega)]
    have hf : ((List.range (znf (r.getD 0 0))).map (zfv ad w.1 w.2.1 (r.getD 0 0) y))[r.getD 1 0]? = some (zfv ad w.1 w.2.1 (r.getD 0 0) y (r.getD 1 0)) := by
      rw [List.getElem?_map, List.getElem?_range (by rw [q4]; exact hj)]; rfl
    refine va_get hx hb hts (fun u hu => zwd_in (q1 u hu)) hown hK hs.1 y hcell hcl (r.getD 1 0) hj (hts _ hw) (fun x hx => by rw [(q7 _ hj).1] at hx; exact hx) hf hdg ?_
    rw [hty] at h4
    unfold zfv
    split at h4
    · next h6 =>
      rw [if_pos h6]
      cases hz : zrf w.1 y (r.getD 1 0) with
      | none => rw [hz] at h4; exact absurd h4 id
      | some q =>
        rw [hz] at h4
        exact hk _ h4 H locs cv ad (hs.stk (zvo_R (hs.2.2.2.1.2.2.1 _ _ _ hz) h2))
    · next h6 =>
      rw [if_neg h6]
      exact hk _ h4 H locs cv ad (hs.stk (zvo_I (hs.2.2.2.1.1 _ _) h2))
  all_goals exact absurd h id
theorem zs_put {r : List Nat} {idx y : Nat} {x : zV} {ls st : List zV} {w w' : zW} {H : Heap} {locs : List Loc} {cv : Array Slot} {ad : Nat → Nat} (C0 : zCx p s m args meth c D ca A μ) (hdg : decode (zcode μ) pc = .ok (.putfield idx, 3)) (hch : zchf μ idx r true = true)
    (hs : zst D ca A s b ad0 (zmaxL μ) H locs cv ad (ls, x :: zR y :: st, w)) (hy : zkd w.1 y = r.getD 0 0)
    (hn : ∀ ty : FieldType, (zft (r.getD 0 0) (r.getD 1 0) = 0 ∧ ty = .int ∨ zft (r.getD 0 0) (r.getD 1 0) = 1 ∧ ty = .boolean ∨ zft (r.getD 0 0) (r.getD 1 0) = 2 ∧ ty.isReference = true) → narrow ty (zcv ad x) = zcv ad x ∧ fits ty (zcv ad x) = true)
    (hl : w'.1.length = w.1.length) (hz : zsz w'.1 = zsz w.1) (hok : zok w') (ho : ∀ j, j ≠ y → zce ca ad w' j = zce ca ad w j) (hy' : zkd w'.1 y = r.getD 0 0) (hv : zfv ad w'.1 w'.2.1 (r.getD 0 0) y (r.getD 1 0) = zcv ad x) (hvo : ∀ i, i ≠ r.getD 1 0 → zfv ad w'.1 w'.2.1 (r.getD 0 0) y i = zfv ad w.1 w.2.1 (r.getD 0 0) y i)
    (hk : zWS p l e s m args below meth c D ca A d μ b ad0 Qs (pc + 3) (ls, st, w')) : W p l e (zrm d b) s m args below meth c H locs (w.1.length - b.1) (zsz w.1 - b.2.1) Qs (F0 m pc cv (zcv ad x :: .ref (ad y) :: st.map (zcv ad))) := by
  obtain ⟨hx, hb, hml, hr, hown, hlocks, hin, hts, hnw, hao, hK, hA⟩ := C0
  obtain ⟨C, T, N, hcl, hj, hw, hty, hfi⟩ := zchf_e hch
  obtain ⟨q1, -, -, q4, q5, ty0, q6, q7⟩ := zclp_all _ _ hcl
  have hci := zci_lt hcl
  have hst := hs.2.2.2.2.2.1
  obtain ⟨h0, h1⟩ := zvo_t hst
  obtain ⟨h1, h2⟩ := zvo_t h1
  have hcell : (zws ca ad w)[y]? = some (ad y, .inr (r.getD 0 0, (List.range (znf (r.getD 0 0))).map (zfv ad w.1 w.2.1 (r.getD 0 0) y))) := by
    rw [zws_at h1, zce_obj hy (by omega)]
  have hnf := hn (ty0 (r.getD 1 0)) (q7 _ hj).2
  have hlen : r.getD 1 0 < ((List.range (znf (r.getD 0 0))).map (zfv ad w.1 w.2.1 (r.getD 0 0) y)).length := by rw [List.length_map, List.length_range, q4]; exact hj
  have heq : (zws ca ad w).set y (ad y, .inr (r.getD 0 0, ((List.range (znf (r.getD 0 0))).map (zfv ad w.1 w.2.1 (r.getD 0 0) y)).set (r.getD 1 0) (zcv ad x))) = zws ca ad w' := by
    refine zws_set hl ho ?_
    rw [zce_obj hy' (by omega)]
    rw [zmap_set (by rw [q4]; exact hj) hv hvo]
  have fin : ∀ (H1 : Heap) (locs1 : List Loc), va_P D vwCl ((zws ca ad w).set y (ad y, .inr (r.getD 0 0, ((List.range (znf (r.getD 0 0))).map (zfv ad w.1 w.2.1 (r.getD 0 0) y)).set (r.getD 1 0) (zcv ad x)))) H1 → va_D A ((zws ca ad w).set y (ad y, .inr (r.getD 0 0, ((List.range (znf (r.getD 0 0))).map (zfv ad w.1 w.2.1 (r.getD 0 0) y)).set (r.getD 1 0) (zcv ad x)))) → va_S A s.heap H1 locs1 → W p l e (zrm d b) s m args below meth c H1 locs1 (w.1.length - b.1) (zsz w.1 - b.2.1) Qs (F0 m (pc + 3) cv (st.map (zcv ad))) := by
    intro H1 locs1 g1 g2 g3
    rw [heq] at g1 g2
    have e1 := hk H1 locs1 cv ad ⟨g1, g2, g3, hok, by rw [hl]; exact hs.2.2.2.2.1, by rw [hl]; exact h2, hs.2.2.2.2.2.2.1, by unfold zfr; rw [hl, hz]; exact hs.2.2.2.2.2.2.2.1, hs.2.2.2.2.2.2.2.2⟩
    dsimp only at e1
    rw [hl, hz] at e1
    exact e1
  cases hfin : (T (r.getD 1 0)).2.2.2 with
  | false => exact va_put hx hb hts (fun u hu => zwd_in (q1 u hu)) ty0 q6 q5 hown hK hs.1 hs.2.1 hs.2.2.1 y hcell hcl (r.getD 1 0) hj (hts _ hw) (fun x hx => by rw [(q7 _ hj).1] at hx; exact hx) hfin (q6 _ hj) hnf.1 hnf.2 hlen hdg fin
  | true =>
    obtain ⟨f1, f2⟩ := hfi rfl hfin
    exact va_putF hx hb hts (fun u hu => zwd_in (q1 u hu)) ty0 q6 q5 hown hK hs.1 hs.2.1 hs.2.2.1 y hcell hcl (r.getD 1 0) hj (hts _ hw) (fun x hx => by rw [(q7 _ hj).1] at hx; exact hx) hfin (hin f1) (by rw [(q7 _ hj).1]; exact f2) (q6 _ hj) hnf.1 hnf.2 hlen hdg fin
end ZH
theorem zmu_s {M : zM} {k j : Nat} {v : Int} : zmu M k j v k j = v := by unfold zmu; rw [if_pos ⟨rfl, rfl⟩]
theorem zmu_j {M : zM} {k j i : Nat} {v : Int} (h : i ≠ j) : zmu M k j v k i = M k i := by unfold zmu; rw [if_neg (fun q => h q.2)]
theorem zmu_k {M : zM} {k j a i : Nat} {v : Int} (h : a ≠ k) : zmu M k j v a i = M a i := by unfold zmu; rw [if_neg (fun q => h q.1)]
theorem zok_mu {σ : zSh} {M L : zM} {k j : Nat} {v : Int} (h : zok (σ, M, L)) (hv : zr32 v) : zok (σ, zmu M k j v, L) := ⟨zmu_r h.1 hv, h.2.1, h.2.2.1, h.2.2.2⟩
theorem zok_ml {σ : zSh} {M L : zM} {k j : Nat} {v : Int} (h : zok (σ, M, L)) (hv : zr64 v) : zok (σ, M, zmu L k j v) := ⟨h.1, zmu_r h.2.1 hv, h.2.2.1, h.2.2.2⟩
/-! a reference is stored -/
theorem zsr_len {σ : zSh} {k j q : Nat} : (zsr σ k j q).length = σ.length := by
  unfold zsr
  split
  · exact List.length_set
  · rfl
theorem zsr_at {σ : zSh} {k j q : Nat} (a : Nat) : (zsr σ k j q)[a]? = if a = k then (σ[a]?).map (fun e => (e.1, e.2.1, e.2.2.set j (some q))) else σ[a]? := by
  unfold zsr
  split
  · next e he =>
    rw [List.getElem?_set]
    by_cases h : k = a
    · subst h
      rw [if_pos rfl, if_pos rfl, if_pos (List.getElem?_eq_some_iff.mp he).1, he]
      rfl
    · rw [if_neg h, if_neg (Ne.symm h)]
  · next he =>
    by_cases h : a = k
    · subst h
      rw [if_pos rfl, he]
      rfl
    · rw [if_neg h]
theorem zsr_kd {σ : zSh} {k j q : Nat} (a : Nat) : zkd (zsr σ k j q) a = zkd σ a := by
  unfold zkd
  rw [zsr_at]
  by_cases h : a = k
  · rw [if_pos h]; cases σ[a]? <;> rfl
  · rw [if_neg h]
theorem zsr_ln {σ : zSh} {k j q : Nat} (a : Nat) : zln (zsr σ k j q) a = zln σ a := by
  unfold zln
  rw [zsr_at]
  by_cases h : a = k
  · rw [if_pos h]; cases σ[a]? <;> rfl
  · rw [if_neg h]
theorem zsr_rfo {σ : zSh} {k j q a i : Nat} (h : ¬ (a = k ∧ i = j)) : zrf (zsr σ k j q) a i = zrf σ a i := by
  unfold zrf
  rw [zsr_at]
  by_cases ha : a = k
  · rw [if_pos ha]
    cases hz : σ[a]? with
    | none => rfl
    | some e =>
      show ((e.2.2.set j (some q))[i]?).join = (e.2.2[i]?).join
      rw [List.getElem?_set, if_neg (fun g => h ⟨ha, g.symm⟩)]
  · rw [if_neg ha]
theorem zsr_rfs {σ : zSh} {k j q : Nat} {e : Nat × Nat × List (Option Nat)} (he : σ[k]? = some e) (hj : j < e.2.2.length) : zrf (zsr σ k j q) k j = some q := by
  unfold zrf
  rw [zsr_at, if_pos rfl, he]
  show ((e.2.2.set j (some q))[j]?).join = some q
  rw [List.getElem?_set, if_pos rfl, if_pos hj]
  rfl
theorem zsz_set : ∀ (σ : zSh) (k : Nat) (e e' : Nat × Nat × List (Option Nat)), σ[k]? = some e → zsz1 e' = zsz1 e → zsz (σ.set k e') = zsz σ
  | [], k, e, e', h, _ => by simp at h
  | a :: σ, 0, e, e', h, h2 => by
    cases h
    simp [zsz, h2]
  | a :: σ, k + 1, e, e', h, h2 => by
    simp [zsz]
    exact zsz_set σ k e e' h h2
theorem zsr_sz {σ : zSh} {k j q : Nat} : zsz (zsr σ k j q) = zsz σ := by
  unfold zsr
  split
  · next e he => exact zsz_set σ k e _ he rfl
  · rfl
theorem zok_sr {σ : zSh} {M L : zM} {k j q : Nat} (h : zok (σ, M, L)) (hq : q < σ.length) : zok (zsr σ k j q, M, L) := by
  refine ⟨h.1, h.2.1, fun a i u hu => ?_, fun a e he => ?_⟩
  · show u < (zsr σ k j q).length
    rw [zsr_len]
    by_cases g : a = k ∧ i = j
    · obtain ⟨g1, g2⟩ := g
      subst g1; subst g2
      unfold zrf at hu
      dsimp only at hu
      rw [zsr_at, if_pos rfl] at hu
      cases hz : σ[a]? with
      | none => rw [hz] at hu; cases hu
      | some e =>
        rw [hz] at hu
        have hu : ((e.2.2.set i (some q))[i]?).join = some u := hu
        rw [List.getElem?_set, if_pos rfl] at hu
        split at hu
        · cases hu; exact hq
        · cases hu
    · rw [zsr_rfo g] at hu
      exact h.2.2.1 a i u hu
  · have he : (zsr σ k j q)[a]? = some e := he
    rw [zsr_at] at he
    split at he
    · cases hz : σ[a]? with
      | none => rw [hz] at he; cases he
      | some e' =>
        rw [hz] at he
        cases he
        have h3 := h.2.2.2 a e' hz
        simpa using h3
    · exact h.2.2.2 a e he
