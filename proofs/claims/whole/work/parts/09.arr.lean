/-! putfield, arrays -/
section ZA
variable {p : Program} {l : Launch} {e : Env} {s : State} {m : MethodId} {args : Array Value} {below : List Frame} {meth : Method} {c : Code} {D : va_G} {ca : Nat → ClassId} {A : Nat → Prop} {d μ : Nat} {b : zB} {ad0 : Nat → Nat} {Qs : State → Prop}
variable {pc n : Nat} {S : zMS} {k : zMS → Prop}
theorem zbl_e {x : Int} {k : Int → Prop} (h : zbl x k) : (x = 0 ∨ x = 1) ∧ k x := by
  unfold zbl at h
  split at h
  · next h1 => subst h1; exact ⟨Or.inl rfl, h⟩
  · split at h
    · next h1 => subst h1; exact ⟨Or.inr rfl, h⟩
    · exact absurd h id
theorem zs_pfI {r : List Nat} {idx y : Nat} {x : Int} {ls st : List zV} {w : zW} (C0 : zCx p s m args meth c D ca A μ) (hdg : decode (zcode μ) pc = .ok (.putfield idx, 3)) (hch : zchf μ idx r true = true) (hy : zkd w.1 y = r.getD 0 0) (hty : zft (r.getD 0 0) (r.getD 1 0) = 0 ∨ zft (r.getD 0 0) (r.getD 1 0) = 1 ∧ (x = 0 ∨ x = 1))
    (hk : zWS p l e s m args below meth c D ca A d μ b ad0 Qs (pc + 3) (ls, st, w.1, zmu w.2.1 y (r.getD 1 0) x, w.2.2)) : zWS p l e s m args below meth c D ca A d μ b ad0 Qs pc (ls, zI x :: zR y :: st, w) := by
  intro H locs cv ad hs
  obtain ⟨h0, h1⟩ := zvo_t hs.2.2.2.2.2.1
  have hne : ¬ zft (r.getD 0 0) (r.getD 1 0) = 2 := by rcases hty with h | h <;> omega
  refine zs_put C0 hdg hch hs hy ?_ (w' := (w.1, zmu w.2.1 y (r.getD 1 0) x, w.2.2)) rfl rfl (zok_mu hs.2.2.2.1 h0) ?_ hy ?_ ?_ hk
  · intro ty ht
    rcases ht with ⟨-, rfl⟩ | ⟨t1, rfl⟩ | ⟨t1, -⟩
    · exact ⟨rfl, rfl⟩
    · rcases hty with h | ⟨-, rfl | rfl⟩
      · omega
      · exact ⟨rfl, rfl⟩
      · exact ⟨rfl, rfl⟩
    · exact absurd t1 hne
  · intro j hj
    exact zce_congr rfl (fun _ => rfl) rfl (fun i => zmu_k hj) (fun _ => rfl)
  · unfold zfv
    rw [if_neg hne]
    show Value.int (Int32.ofInt (zmu _ _ _ _ _ _)) = _
    rw [zmu_s]
    rfl
  · intro i hi
    unfold zfv
    show (if _ then _ else Value.int (Int32.ofInt (zmu _ _ _ _ _ _))) = _
    rw [zmu_j hi]
theorem zs_pfR {r : List Nat} {idx y q : Nat} {ls st : List zV} {w : zW} (C0 : zCx p s m args meth c D ca A μ) (hdg : decode (zcode μ) pc = .ok (.putfield idx, 3)) (hch : zchf μ idx r true = true) (hy : zkd w.1 y = r.getD 0 0) (hty : zft (r.getD 0 0) (r.getD 1 0) = 2)
    (hk : zWS p l e s m args below meth c D ca A d μ b ad0 Qs (pc + 3) (ls, st, zsr w.1 y (r.getD 1 0) q, w.2.1, w.2.2)) : zWS p l e s m args below meth c D ca A d μ b ad0 Qs pc (ls, zR q :: zR y :: st, w) := by
  intro H locs cv ad hs
  obtain ⟨h0, h1⟩ := zvo_t hs.2.2.2.2.2.1
  obtain ⟨C, T, N, hcl, hj, -, -, -⟩ := zchf_e hch
  have q4 := (zclp_all _ _ hcl).2.2.2.1
  obtain ⟨h1, h2⟩ := zvo_t h1
  have hok := hs.2.2.2.1
  obtain ⟨ee, hee⟩ : ∃ e, w.1[y]? = some e := ⟨_, List.getElem?_eq_getElem h1⟩
  have he1 : ee.1 = r.getD 0 0 := by unfold zkd at hy; rw [hee] at hy; exact hy
  have hlen : r.getD 1 0 < ee.2.2.length := by
    have h3 := (hok.2.2.2 y ee hee).1
    have := zci_lt hcl
    rcases h3 with ⟨-, h3⟩ | h3
    · rw [h3, he1, q4]; exact hj
    · omega
  refine zs_put C0 hdg hch hs hy ?_ (w' := (zsr w.1 y (r.getD 1 0) q, w.2.1, w.2.2)) zsr_len zsr_sz (zok_sr hok h0) ?_ (by rw [zsr_kd]; exact hy) ?_ ?_ hk
  · intro ty ht
    rcases ht with ⟨t1, -⟩ | ⟨t1, -⟩ | ⟨-, t1⟩
    · omega
    · omega
    · cases ty <;> first | (simp [FieldType.isReference] at t1; done) | exact ⟨rfl, rfl⟩
  · intro j hj
    exact zce_congr (zsr_kd j) (fun i => by rw [zsr_rfo (fun g => hj g.1)]) (zsr_ln j) (fun _ => rfl) (fun _ => rfl)
  · unfold zfv
    rw [if_pos hty]
    show va_rf ((zrf (zsr _ _ _ _) _ _).map ad) = _
    rw [zsr_rfs hee hlen]
    rfl
  · intro i hi
    unfold zfv
    show (if _ then va_rf ((zrf (zsr _ _ _ _) _ _).map ad) else _) = _
    rw [zsr_rfo (fun g => hi g.2)]
theorem zs_pf {r : List Nat} {idx : Nat} (C0 : zCx p s m args meth c D ca A μ) (hdg : decode (zcode μ) pc = .ok (.putfield idx, 3)) (hch : zchf μ idx r true = true) (h : zpf (r.getD 0 0) (r.getD 1 0) (r.getD 3 0) S k) (hk : ∀ S', k S' → zWS p l e s m args below meth c D ca A d μ b ad0 Qs (pc + 3) S') : zWS p l e s m args below meth c D ca A d μ b ad0 Qs pc S := by
  obtain ⟨C, T, N, hcl, hj, -, hty, -⟩ := zchf_e hch
  obtain ⟨-, -, -, -, -, ty0, -, q7⟩ := zclp_all _ _ hcl
  have h7 := (q7 _ hj).2
  obtain ⟨ls, st, w⟩ := S
  unfold zpf at h
  rw [hty] at h
  split at h
  · next h6 =>
    rcases st with _ | ⟨x | x | x | x, _ | ⟨y | y | y | y, st⟩⟩
    case cons.inl.cons.inr.inr.inl =>
      obtain ⟨h3, h4⟩ := zkq_e h
      exact zs_pfI C0 hdg hch h3 (Or.inl h6) (hk _ h4)
    all_goals exact absurd h id
  · next h6 =>
    rcases st with _ | ⟨x | x | x | x, _ | ⟨y | y | y | y, st⟩⟩
    case cons.inl.cons.inr.inr.inl =>
      obtain ⟨h3, h4⟩ := zkq_e h
      obtain ⟨h5, h8⟩ := zbl_e h4
      exact zs_pfI C0 hdg hch h3 (Or.inr ⟨h6, h5⟩) (hk _ h8)
    all_goals exact absurd h id
  · next h6 h6' =>
    have h2 : zft (r.getD 0 0) (r.getD 1 0) = 2 := by
      rcases h7 with h | h | h
      · exact absurd h.1 h6
      · exact absurd h.1 h6'
      · exact h.1
    rcases st with _ | ⟨x | x | x | x, _ | ⟨y | y | y | y, st⟩⟩
    case cons.inr.inr.inl.cons.inr.inr.inl =>
      obtain ⟨h3, h4⟩ := zkq_e h
      exact zs_pfR C0 hdg hch h3 h2 (hk _ h4)
    all_goals exact absurd h id
theorem zix_e {σ : zSh} {t a : Nat} {i : Int} {k : Prop} (h : zix σ t a i k) : zkd σ a = t ∧ (0 ≤ i ∧ i < zln σ a) ∧ k := by
  obtain ⟨h1, h2⟩ := zkq_e h
  obtain ⟨h3, h4⟩ := zck_e h2
  exact ⟨h1, h3, h4⟩
theorem zs_ial (C0 : zCx p s m args meth c D ca A μ) (hdg : decode (zcode μ) pc = .ok (.iaload, 1)) (h : zial 20 S k) (hk : ∀ S', k S' → zWS p l e s m args below meth c D ca A d μ b ad0 Qs (pc + 1) S') : zWS p l e s m args below meth c D ca A d μ b ad0 Qs pc S := by
  obtain ⟨hx, hb, hml, hr, hown, hlocks, hin, hts, hnw, hao, hK, hA⟩ := C0
  obtain ⟨ls, st, w⟩ := S
  unfold zial at h
  rcases st with _ | ⟨x | x | x | x, _ | ⟨y | y | y | y, st⟩⟩
  case cons.inl.cons.inr.inr.inl =>
    intro H locs cv ad hs
    obtain ⟨h0, h1⟩ := zvo_t hs.2.2.2.2.2.1
    obtain ⟨h1, h2⟩ := zvo_t h1
    obtain ⟨h3, h4, h5⟩ := zix_e h
    have e1 := hk _ h5 H locs cv ad (hs.stk (zvo_I (hs.2.2.2.1.1 _ _) h2))
    refine va_iald hx hb hK hs.1 y 0 (by rw [zws_at h1, zce_i h3 (Or.inl rfl)]) rfl (zin_of h0 h4) hdg ?_
    rw [zr32_n h0]
    exact e1
  all_goals exact absurd h id
theorem zs_bal (C0 : zCx p s m args meth c D ca A μ) (hdg : decode (zcode μ) pc = .ok (.baload, 1)) (h : zial 21 S k) (hk : ∀ S', k S' → zWS p l e s m args below meth c D ca A d μ b ad0 Qs (pc + 1) S') : zWS p l e s m args below meth c D ca A d μ b ad0 Qs pc S := by
  obtain ⟨hx, hb, hml, hr, hown, hlocks, hin, hts, hnw, hao, hK, hA⟩ := C0
  obtain ⟨ls, st, w⟩ := S
  unfold zial at h
  rcases st with _ | ⟨x | x | x | x, _ | ⟨y | y | y | y, st⟩⟩
  case cons.inl.cons.inr.inr.inl =>
    intro H locs cv ad hs
    obtain ⟨h0, h1⟩ := zvo_t hs.2.2.2.2.2.1
    obtain ⟨h1, h2⟩ := zvo_t h1
    obtain ⟨h3, h4, h5⟩ := zix_e h
    have e1 := hk _ h5 H locs cv ad (hs.stk (zvo_I (hs.2.2.2.1.1 _ _) h2))
    refine va_zald hx hb hK hs.1 y 1 (by rw [zws_at h1, zce_i h3 (Or.inr rfl)]) rfl (zin_of h0 h4) hdg ?_
    rw [zr32_n h0]
    exact e1
  all_goals exact absurd h id
theorem zs_lal (C0 : zCx p s m args meth c D ca A μ) (hdg : decode (zcode μ) pc = .ok (.laload, 1)) (h : zlal S k) (hk : ∀ S', k S' → zWS p l e s m args below meth c D ca A d μ b ad0 Qs (pc + 1) S') : zWS p l e s m args below meth c D ca A d μ b ad0 Qs pc S := by
  obtain ⟨hx, hb, hml, hr, hown, hlocks, hin, hts, hnw, hao, hK, hA⟩ := C0
  obtain ⟨ls, st, w⟩ := S
  unfold zlal at h
  rcases st with _ | ⟨x | x | x | x, _ | ⟨y | y | y | y, st⟩⟩
  case cons.inl.cons.inr.inr.inl =>
    intro H locs cv ad hs
    obtain ⟨h0, h1⟩ := zvo_t hs.2.2.2.2.2.1
    obtain ⟨h1, h2⟩ := zvo_t h1
    obtain ⟨h3, h4, h5⟩ := zix_e h
    have e1 := hk _ h5 H locs cv ad (hs.stk (zvo_L (hs.2.2.2.1.2.1 _ _) h2))
    refine va_lald hx hb hK hs.1 y 2 (by rw [zws_at h1, zce_l h3]) rfl (zin_of h0 h4) hdg ?_
    rw [zr32_n h0]
    exact e1
  all_goals exact absurd h id
theorem zs_aal {t : Nat} (ht : t = 23 ∨ t = 24) (C0 : zCx p s m args meth c D ca A μ) (hdg : decode (zcode μ) pc = .ok (.aaload, 1)) (h : zaal t S k) (hk : ∀ S', k S' → zWS p l e s m args below meth c D ca A d μ b ad0 Qs (pc + 1) S') : zWS p l e s m args below meth c D ca A d μ b ad0 Qs pc S := by
  obtain ⟨hx, hb, hml, hr, hown, hlocks, hin, hts, hnw, hao, hK, hA⟩ := C0
  obtain ⟨ls, st, w⟩ := S
  unfold zaal at h
  rcases st with _ | ⟨x | x | x | x, _ | ⟨y | y | y | y, st⟩⟩
  case cons.inl.cons.inr.inr.inl =>
    intro H locs cv ad hs
    obtain ⟨h0, h1⟩ := zvo_t hs.2.2.2.2.2.1
    obtain ⟨h1, h2⟩ := zvo_t h1
    obtain ⟨h3, h4, h5⟩ := zix_e h
    dsimp only at h5
    cases hz : zrf w.1 y x.toNat with
    | none => rw [hz] at h5; exact absurd h5 id
    | some q =>
      rw [hz] at h5
      have e1 := hk _ h5 H locs cv ad (hs.stk (zvo_R (hs.2.2.2.1.2.2.1 _ _ _ hz) h2))
      rcases ht with rfl | rfl
      · refine va_aldq hx hb hK hs.1 y 3 (by rw [zws_at h1, zce_q h3 (Or.inl rfl)]) rfl (zin_of h0 h4) hdg ?_
        rw [zr32_n h0, hz]
        exact e1
      · refine va_aldq hx hb hK hs.1 y 4 (by rw [zws_at h1, zce_q h3 (Or.inr rfl)]) rfl (zin_of h0 h4) hdg ?_
        rw [zr32_n h0, hz]
        exact e1
  all_goals exact absurd h id
/-- behind a store into an array -/
theorem zst.put {H H1 : Heap} {locs locs1 : List Loc} {cv : Array Slot} {ad : Nat → Nat} {ls st st' : List zV} {w w' : zW} {a : Nat} {x : va_E} {nL : Nat} (hs : zst D ca A s b ad0 nL H locs cv ad (ls, st, w)) (h2 : ∀ v ∈ st', zvo w.1.length v) (hl : w'.1.length = w.1.length) (hz : zsz w'.1 = zsz w.1) (hok : zok w') (ho : ∀ j, j ≠ a → zce ca ad w' j = zce ca ad w j) (hx : zce ca ad w' a = x)
    (g1 : va_P D vwCl ((zws ca ad w).set a (ad a, x)) H1) (g2 : va_D A ((zws ca ad w).set a (ad a, x))) (g3 : va_S A s.heap H1 locs1) : zst D ca A s b ad0 nL H1 locs1 cv ad (ls, st', w') := by
  rw [zws_set hl ho hx] at g1 g2
  exact ⟨g1, g2, g3, hok, by rw [hl]; exact hs.2.2.2.2.1, by rw [hl]; exact h2, hs.2.2.2.2.2.2.1, by unfold zfr; rw [hl, hz]; exact hs.2.2.2.2.2.2.2.1, hs.2.2.2.2.2.2.2.2⟩
theorem zs_ias (C0 : zCx p s m args meth c D ca A μ) (hdg : decode (zcode μ) pc = .ok (.iastore, 1)) (h : zias S k) (hk : ∀ S', k S' → zWS p l e s m args below meth c D ca A d μ b ad0 Qs (pc + 1) S') : zWS p l e s m args below meth c D ca A d μ b ad0 Qs pc S := by
  obtain ⟨hx, hb, hml, hr, hown, hlocks, hin, hts, hnw, hao, hK, hA⟩ := C0
  obtain ⟨ls, st, w⟩ := S
  unfold zias at h
  rcases st with _ | ⟨x | x | x | x, _ | ⟨i | i | i | i, _ | ⟨y | y | y | y, st⟩⟩⟩
  case cons.inl.cons.inl.cons.inr.inr.inl =>
    intro H locs cv ad hs
    obtain ⟨h0, h1⟩ := zvo_t hs.2.2.2.2.2.1
    obtain ⟨h6, h1⟩ := zvo_t h1
    obtain ⟨h1, h2⟩ := zvo_t h1
    obtain ⟨h3, h4, h5⟩ := zix_e h
    refine va_iast hx hb hK hs.1 hs.2.1 hs.2.2.1 y 0 (by rw [zws_at h1, zce_i h3 (Or.inl rfl)]) rfl (zin_of h6 h4) hdg (fun H1 locs1 g1 g2 g3 => ?_)
    refine hk _ h5 H1 locs1 cv ad (hs.put h2 rfl rfl (zok_mu hs.2.2.2.1 h0) (fun j hj => zce_congr rfl (fun _ => rfl) rfl (fun i => zmu_k hj) (fun _ => rfl)) ?_ g1 g2 g3)
    rw [zce_i (w := (w.1, zmu w.2.1 y i.toNat x, w.2.2)) h3 (Or.inl rfl)]
    congr 4
    funext j
    rw [zr32_n h6]
    by_cases hj : j = i.toNat
    · subst hj
      simp [upd, zmu]
    · simp [upd, zmu, hj]
  all_goals exact absurd h id
theorem zs_bas (C0 : zCx p s m args meth c D ca A μ) (hdg : decode (zcode μ) pc = .ok (.bastore, 1)) (h : zbas S k) (hk : ∀ S', k S' → zWS p l e s m args below meth c D ca A d μ b ad0 Qs (pc + 1) S') : zWS p l e s m args below meth c D ca A d μ b ad0 Qs pc S := by
  obtain ⟨hx, hb, hml, hr, hown, hlocks, hin, hts, hnw, hao, hK, hA⟩ := C0
  obtain ⟨ls, st, w⟩ := S
  unfold zbas at h
  rcases st with _ | ⟨x | x | x | x, _ | ⟨i | i | i | i, _ | ⟨y | y | y | y, st⟩⟩⟩
  case cons.inl.cons.inl.cons.inr.inr.inl =>
    intro H locs cv ad hs
    obtain ⟨h0, h1⟩ := zvo_t hs.2.2.2.2.2.1
    obtain ⟨h6, h1⟩ := zvo_t h1
    obtain ⟨h1, h2⟩ := zvo_t h1
    obtain ⟨h3, h4, h5⟩ := zix_e h
    obtain ⟨h7, h5⟩ := zbl_e h5
    have hnar : vp_nar .boolean (Int32.ofInt x) = Int32.ofInt x := by rcases h7 with rfl | rfl <;> rfl
    refine va_zast hx hb hK hs.1 hs.2.1 hs.2.2.1 y 1 (by rw [zws_at h1, zce_i h3 (Or.inr rfl)]) rfl (zin_of h6 h4) hdg (fun H1 locs1 g1 g2 g3 => ?_)
    refine hk _ h5 H1 locs1 cv ad (hs.put h2 rfl rfl (zok_mu hs.2.2.2.1 h0) (fun j hj => zce_congr rfl (fun _ => rfl) rfl (fun i => zmu_k hj) (fun _ => rfl)) ?_ g1 g2 g3)
    rw [zce_i (w := (w.1, zmu w.2.1 y i.toNat x, w.2.2)) h3 (Or.inr rfl), hnar]
    congr 4
    funext j
    rw [zr32_n h6]
    by_cases hj : j = i.toNat
    · subst hj
      simp [upd, zmu]
    · simp [upd, zmu, hj]
  all_goals exact absurd h id
theorem zs_las (C0 : zCx p s m args meth c D ca A μ) (hdg : decode (zcode μ) pc = .ok (.lastore, 1)) (h : zlas S k) (hk : ∀ S', k S' → zWS p l e s m args below meth c D ca A d μ b ad0 Qs (pc + 1) S') : zWS p l e s m args below meth c D ca A d μ b ad0 Qs pc S := by
  obtain ⟨hx, hb, hml, hr, hown, hlocks, hin, hts, hnw, hao, hK, hA⟩ := C0
  obtain ⟨ls, st, w⟩ := S
  unfold zlas at h
  rcases st with _ | ⟨x | x | x | x, _ | ⟨i | i | i | i, _ | ⟨y | y | y | y, st⟩⟩⟩
  case cons.inr.inl.cons.inl.cons.inr.inr.inl =>
    intro H locs cv ad hs
    obtain ⟨h0, h1⟩ := zvo_t hs.2.2.2.2.2.1
    obtain ⟨h6, h1⟩ := zvo_t h1
    obtain ⟨h1, h2⟩ := zvo_t h1
    obtain ⟨h3, h4, h5⟩ := zix_e h
    refine va_last hx hb hK hs.1 hs.2.1 hs.2.2.1 y 2 (by rw [zws_at h1, zce_l h3]) rfl (zin_of h6 h4) hdg (fun H1 locs1 g1 g2 g3 => ?_)
    refine hk _ h5 H1 locs1 cv ad (hs.put h2 rfl rfl (zok_ml hs.2.2.2.1 h0) (fun j hj => zce_congr rfl (fun _ => rfl) rfl (fun _ => rfl) (fun i => zmu_k hj)) ?_ g1 g2 g3)
    rw [zce_l (w := (w.1, w.2.1, zmu w.2.2 y i.toNat x)) h3]
    congr 5
    funext j
    rw [zr32_n h6]
    by_cases hj : j = i.toNat
    · subst hj
      simp [vp_updL, zmu]
    · simp [vp_updL, zmu, hj]
  all_goals exact absurd h id
theorem zs_aas {t : Nat} (ht : t = 23 ∨ t = 24) (C0 : zCx p s m args meth c D ca A μ) (hdg : decode (zcode μ) pc = .ok (.aastore, 1)) (h : zaas t S k) (hk : ∀ S', k S' → zWS p l e s m args below meth c D ca A d μ b ad0 Qs (pc + 1) S') : zWS p l e s m args below meth c D ca A d μ b ad0 Qs pc S := by
  obtain ⟨hx, hb, hml, hr, hown, hlocks, hin, hts, hnw, hao, hK, hA⟩ := C0
  obtain ⟨ls, st, w⟩ := S
  unfold zaas at h
  rcases st with _ | ⟨x | x | x | x, _ | ⟨i | i | i | i, _ | ⟨y | y | y | y, st⟩⟩⟩
  case cons.inr.inr.inl.cons.inl.cons.inr.inr.inl =>
    intro H locs cv ad hs
    obtain ⟨h0, h1⟩ := zvo_t hs.2.2.2.2.2.1
    obtain ⟨h6, h1⟩ := zvo_t h1
    obtain ⟨h1, h2⟩ := zvo_t h1
    obtain ⟨h3, h4, h5⟩ := zix_e h
    obtain ⟨h7, h10⟩ := zkq_e h5
    dsimp only at h3 h4 h7
    have hok := hs.2.2.2.1
    obtain ⟨ee, hee⟩ : ∃ e, w.1[y]? = some e := ⟨_, List.getElem?_eq_getElem h1⟩
    have he1 : ee.1 = t := by unfold zkd at h3; rw [hee] at h3; exact h3
    have hlen : i.toNat < ee.2.2.length := by
      have h8 := (hok.2.2.2 y ee hee).2.1 (by omega)
      have h9 : zln w.1 y = (ee.2.1 : Int) := by unfold zln; rw [hee]
      rw [h8]
      omega
    have e9 : ∀ a : Nat, (fun j => (zrf (zsr w.1 y i.toNat x) y j).map ad) = va_up (fun j => (zrf w.1 y j).map ad) (Int32.ofInt i).toNatClampNeg (some (ad x)) := by
      intro _
      funext j
      rw [zr32_n h6]
      by_cases hj : j = i.toNat
      · subst hj
        rw [zsr_rfs hee hlen]
        simp [va_up]
      · rw [zsr_rfo (fun g => hj g.2)]
        simp [va_up, hj]
    have ho : ∀ j, j ≠ y → zce ca ad (zsr w.1 y i.toNat x, w.2.1, w.2.2) j = zce ca ad w j := fun j hj => zce_congr (zsr_kd j) (fun i => by rw [zsr_rfo (fun g => hj g.1)]) (zsr_ln j) (fun _ => rfl) (fun _ => rfl)
    rcases ht with rfl | rfl
    · refine va_astq (r := (RX2, TX2, 2)) hx hb hK hs.1 hs.2.1 hs.2.2.1 y 3 x 2 (by rw [zws_at h1, zce_q h3 (Or.inl rfl)]) rfl (by rw [zws_at h0, zce_obj h7 (by decide)]; rfl) rfl (zin_of h6 h4) hdg (fun H1 locs1 g1 g2 g3 => ?_)
      have e8 := hk _ h10 H1 locs1 cv ad (hs.put h2 zsr_len zsr_sz (zok_sr hok h0) ho (by rw [zce_q (t := 23) (by rw [zsr_kd]; exact h3) (Or.inl rfl), e9 0, zsr_ln]) g1 g2 g3)
      dsimp only at e8
      rw [zsr_len, zsr_sz] at e8
      exact e8
    · refine va_astq (r := (RX5, TX5, 2)) hx hb hK hs.1 hs.2.1 hs.2.2.1 y 4 x 5 (by rw [zws_at h1, zce_q h3 (Or.inr rfl)]) rfl (by rw [zws_at h0, zce_obj h7 (by decide)]; rfl) rfl (zin_of h6 h4) hdg (fun H1 locs1 g1 g2 g3 => ?_)
      have e8 := hk _ h10 H1 locs1 cv ad (hs.put h2 zsr_len zsr_sz (zok_sr hok h0) ho (by rw [zce_q (t := 24) (by rw [zsr_kd]; exact h3) (Or.inr rfl), e9 0, zsr_ln]) g1 g2 g3)
      dsimp only at e8
      rw [zsr_len, zsr_sz] at e8
      exact e8
  all_goals exact absurd h id
theorem zln_r {w : zW} {a : Nat} (h : zok w) : zr32 (zln w.1 a) ∧ 0 ≤ zln w.1 a := by
  unfold zln
  cases hz : w.1[a]? with
  | none => exact ⟨zr32_0, Int.le_refl 0⟩
  | some e =>
    have h2 := (h.2.2.2 a e hz).2.2
    show zr32 (e.2.1 : Int) ∧ 0 ≤ (e.2.1 : Int)
    unfold zr32
    omega
theorem zs_ale (C0 : zCx p s m args meth c D ca A μ) (hdg : decode (zcode μ) pc = .ok (.arraylength, 1)) (h : zale S k) (hk : ∀ S', k S' → zWS p l e s m args below meth c D ca A d μ b ad0 Qs (pc + 1) S') : zWS p l e s m args below meth c D ca A d μ b ad0 Qs pc S := by
  obtain ⟨hx, hb, hml, hr, hown, hlocks, hin, hts, hnw, hao, hK, hA⟩ := C0
  obtain ⟨ls, st, w⟩ := S
  unfold zale at h
  rcases st with _ | ⟨y | y | y | y, st⟩
  case cons.inr.inr.inl =>
    intro H locs cv ad hs
    obtain ⟨h1, h2⟩ := zvo_t hs.2.2.2.2.2.1
    obtain ⟨h34, h5⟩ := zkb_e h
    rw [Bool.and_eq_true] at h34
    have h3 := Nat.le_of_ble_eq_true h34.1
    have h4 := Nat.le_of_ble_eq_true h34.2
    dsimp only at h3 h4 h5
    obtain ⟨g1, g2⟩ := zln_r (a := y) hs.2.2.2.1
    have e1 := hk _ h5 H locs cv ad (hs.stk (zvo_I g1 h2))
    have e2 : Int32.ofNat (zln w.1 y).toNat = Int32.ofInt (zln w.1 y) := by
      rw [← Int32.ofInt_eq_ofNat, Int.toNat_of_nonneg g2]
    rcases (show zkd w.1 y = 20 ∨ zkd w.1 y = 21 ∨ zkd w.1 y = 22 ∨ zkd w.1 y = 23 ∨ zkd w.1 y = 24 by omega) with q | q | q | q | q
    · exact va_alen hx hb hK hs.1 y 0 (by rw [zws_at h1, zce_i q (Or.inl rfl)]) rfl e2 hdg e1
    · exact va_alen hx hb hK hs.1 y 1 (by rw [zws_at h1, zce_i q (Or.inr rfl)]) rfl e2 hdg e1
    · exact va_alen hx hb hK hs.1 y 2 (by rw [zws_at h1, zce_l q]) rfl e2 hdg e1
    · exact va_alen hx hb hK hs.1 y 3 (by rw [zws_at h1, zce_q q (Or.inl rfl)]) rfl e2 hdg e1
    · exact va_alen hx hb hK hs.1 y 4 (by rw [zws_at h1, zce_q q (Or.inr rfl)]) rfl e2 hdg e1
  all_goals exact absurd h id
end ZA
