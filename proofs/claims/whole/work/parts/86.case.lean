/-! the law: what it loads, a case of its switch -/
def ldk (pc : Nat) (i : Instr) (n : Nat) : Bool := decide (decode code pc = .ok (i, n))
theorem ldk_e {pc n : Nat} {i : Instr} (h : ldk pc i n = true) : decode code pc = .ok (i, n) := of_decide_eq_true h
def lda (pc j : Nat) : Bool := ldk pc (.aload_n 0) 1 && (ldk (pc + 1) (.iload_n 3) 1 && (ldk (pc + 2) (.iconst (j : Int)) 1 && (ldk (pc + 3) .iadd 1 && ldk (pc + 4) .iaload 1)))
def lds (pc : Nat) : Nat → Bool
  | 0 => true
  | n + 1 => lds pc n && lda (pc + 5 * n) (n + 1)
/-- what a call is given -/
def las (xs : Nat → Int32) (i : Nat) : Nat → List zV
  | 0 => []
  | n + 1 => las xs i n ++ [zI (xs (i + (n + 1))).toInt]
theorem las_len {xs : Nat → Int32} {i : Nat} : ∀ n, (las xs i n).length = n
  | 0 => rfl
  | n + 1 => by unfold las; rw [List.length_append, las_len n]; rfl
theorem las_vo {xs : Nat → Int32} {i k : Nat} : ∀ n, ∀ v ∈ las xs i n, zvo k v
  | 0, v, h => absurd h List.not_mem_nil
  | n + 1, v, h => by
    unfold las at h
    rcases List.mem_append.mp h with h | h
    · exact las_vo n v h
    · rw [List.mem_singleton.mp h]; exact zr32_of _
theorem lj_add (i j : Nat) (h : i + j < 2 ^ 31) : Int32.ofNat i + Int32.ofInt (j : Int) = Int32.ofNat (i + j) := by
  apply Int32.toInt_inj.mp
  rw [Int32.toInt_add, Int32.toInt_ofNat_of_lt (by omega), Int32.toInt_ofNat_of_lt h, Int32.toInt_ofInt_of_le (by omega) (by omega)]
  rw [Int.bmod_eq_of_le (by omega) (by omega)]
  omega
theorem lj_in {i L : Nat} (h : i < L) (hL : L ≤ 2560) : vp_in (Int32.ofNat i) L := by
  unfold vp_in
  intro q
  rcases q with q | q
  · rw [Int32.lt_iff_toInt_lt, Int32.toInt_ofNat_of_lt (by omega)] at q
    have : (0 : Int32).toInt = 0 := rfl
    omega
  · rw [← Int32.toNat_toInt, Int32.toInt_ofNat_of_lt (by omega), Int.toNat_natCast] at q
    omega
theorem lj_nat {i : Nat} (h : i < 2 ^ 31) : (Int32.ofNat i).toNatClampNeg = i := by
  rw [← Int32.toNat_toInt, Int32.toInt_ofNat_of_lt h, Int.toNat_natCast]
abbrev lLv (b a0 a1 i : Nat) : List (Nat × Value) := [(3, .int (Int32.ofNat i)), (2, .ref a1), (1, .ref a0), (0, .ref b)]
section LB
variable {p : Program} {l : Launch} {e : Env} {s : State} {m : MethodId} {below : List Frame} {meth : Method} {c : Code} {b L : Nat} {xs : Nat → Int32} {D : va_G} {ca : Nat → ClassId} {H : Heap} {locs : List Loc} {cells slots : Nat} {Qs : State → Prop} {cv : Array Slot} {ad : Nat → Nat} {w : zW} {pc a0 a1 i : Nat}
theorem l_arg {j : Nat} {rest : List Value} (C0 : lX p s m meth c b L xs D ca) (hL : L ≤ 2560) (hS : va_S (lA s) s.heap H locs) (hcv : lv_has cv 4 (lLv b a0 a1 i)) (hj : i + j < L) (h : lda pc j = true) (kk : W p l e room_1 s m #[Value.ref b] below meth c H locs cells slots Qs (F0 m (pc + 5) cv (.int (xs (i + j)) :: rest))) : W p l e room_1 s m #[Value.ref b] below meth c H locs cells slots Qs (F0 m pc cv rest) := by
  obtain ⟨⟨hx, hb, hr, hml, hown, hts, hX, hbl, hlocks, hgv⟩, hK, hnw, hao⟩ := C0
  obtain ⟨h1, h⟩ := qand h
  obtain ⟨h2, h⟩ := qand h
  obtain ⟨h3, h⟩ := qand h
  obtain ⟨h4, h5⟩ := qand h
  refine lv_aload_n hx hb (ldk_e h1) rfl (lv_at hcv 3 rfl) ?_
  refine lv_iload_n hx hb (ldk_e h2) rfl (lv_at hcv 0 rfl) ?_
  refine lv_iconst hx hb (ldk_e h3) rfl ?_
  refine lv_iadd hx hb (ldk_e h4) ?_
  rw [lj_add i j (by omega)]
  refine va_sld hx hb hX hbl (Nat.not_le.mpr hbl) hS (lj_in hj hL) (ldk_e h5) ?_
  rw [lj_nat (by omega)]
  exact kk
theorem l_args (C0 : lX p s m meth c b L xs D ca) (hL : L ≤ 2560) (hS : va_S (lA s) s.heap H locs) (hcv : lv_has cv 4 (lLv b a0 a1 i)) : ∀ (n : Nat) (rest : List Value), i + n < L → lds pc n = true → W p l e room_1 s m #[Value.ref b] below meth c H locs cells slots Qs (F0 m (pc + 5 * n) cv (((las xs i n).map (zcv ad)).reverse ++ rest)) → W p l e room_1 s m #[Value.ref b] below meth c H locs cells slots Qs (F0 m pc cv rest)
  | 0, rest, _, _, k => k
  | n + 1, rest, hn, h, k => by
    obtain ⟨h1, h2⟩ := qand h
    refine l_args C0 hL hS hcv n rest (by omega) h1 (l_arg C0 hL hS hcv hn h2 ?_)
    unfold las at k
    rw [List.map_append, List.reverse_append] at k
    have e1 : Int32.ofInt (xs (i + (n + 1))).toInt = xs (i + (n + 1)) := Int32.ofInt_toInt _
    have k : W p l e room_1 s m #[Value.ref b] below meth c H locs cells slots Qs (F0 m (pc + 5 * (n + 1)) cv (.int (Int32.ofInt (xs (i + (n + 1))).toInt) :: (((las xs i n).map (zcv ad)).reverse ++ rest))) := k
    rw [e1] at k
    exact k
def lmk (μ n idx pl ci : Nat) : Bool := decide (μ < 225) && (zat pl (.methodLink R_law idx (zy μ)) && (decide ((vwCl[ci]?).map (fun q => q.1) = some (zy μ).cls) && (decide (zrow μ 7 = 0) && (decide ((zy μ).name ≠ "<init>") && (decide (n + 1 = zrow μ 1) && (decide (μ ≠ m_ro_init) && decide ((zalT.lookup μ).getD (0, 0) = (0, 0))))))))
theorem lmk_e {μ n idx pl ci : Nat} (h : lmk μ n idx pl ci = true) : μ < 225 ∧ Jvm.Cond.methodLink R_law idx (zy μ) ∈ lw_tbl ∧ (vwCl[ci]?).map (fun q => q.1) = some (zy μ).cls ∧ zrow μ 7 = 0 ∧ (zy μ).name ≠ "<init>" ∧ n + 1 = zrow μ 1 ∧ ∀ a, zal μ a = (0, 0) := by
  obtain ⟨h1, h⟩ := qand h
  obtain ⟨h2, h⟩ := qand h
  obtain ⟨h3, h⟩ := qand h
  obtain ⟨h4, h⟩ := qand h
  obtain ⟨h5, h⟩ := qand h
  obtain ⟨h6, h⟩ := qand h
  obtain ⟨h7, h8⟩ := qand h
  exact ⟨of_decide_eq_true h1, (zat_e h2).1, of_decide_eq_true h3, of_decide_eq_true h4, of_decide_eq_true h5, of_decide_eq_true h6, fun a => by unfold zal; rw [if_neg (of_decide_eq_true h7)]; exact of_decide_eq_true h8⟩
/-- one case: where it stands, how many values, both methods -/
def lck (pc n idx idx' μ μ' pl pl' : Nat) (lg : Bool) : Bool := ldk pc (.aload_n 1) 1 && (lds (pc + 1) n && (ldk (pc + 1 + 5 * n) (.invokevirtual idx) 3 && (ldk (pc + 1 + 5 * n + 3) (.aload_n 2) 1 && (lds (pc + 1 + 5 * n + 3 + 1) n && (ldk (pc + 1 + 5 * n + 3 + 1 + 5 * n) (.invokevirtual idx') 3 && (lmk μ n idx pl 9 && (lmk μ' n idx' pl' 10 && (decide (zrk μ = zrk μ') && (match lg with
  | true => decide (zrk μ' = 2) && (ldk (pc + 1 + 5 * n + 3 + 1 + 5 * n + 3) .lcmp 1 && ldk (pc + 1 + 5 * n + 3 + 1 + 5 * n + 3 + 1) (.ifCond .eq (1408 - ((pc + 1 + 5 * n + 3 + 1 + 5 * n + 3 + 1 : Nat) : Int))) 3)
  | false => decide (zrk μ' ≠ 0 ∧ zrk μ' ≠ 2 ∧ zrk μ' ≠ 3) && ldk (pc + 1 + 5 * n + 3 + 1 + 5 * n + 3) (.if_icmp .eq (1408 - ((pc + 1 + 5 * n + 3 + 1 + 5 * n + 3 : Nat) : Int))) 3)))))))))
theorem zrv_int {rk : Nat} {ad : Nat → Nat} {r : Int} (h : rk ≠ 0 ∧ rk ≠ 2 ∧ rk ≠ 3) : zrv rk ad r = some (.int (Int32.ofInt r)) := by
  unfold zrv
  split
  · exact absurd rfl h.1
  · exact absurd rfl h.2.1
  · exact absurd rfl h.2.2
  · rfl
theorem l_case {n idx idx' μ μ' pl pl' : Nat} {lg : Bool} (C0 : lX p s m meth c b L xs D ca) (hL : L ≤ 2560) (hi : i + 5 ≤ L) (hn : n ≤ 4) (hck : lck pc n idx idx' μ μ' pl pl' lg = true) (hp : zPair μ μ' (las xs i n)) (hs : lS D ca s H locs ad w) (hw : zBoth w) (hSH : w.1 = SH) (h0 : ad 0 = a0) (h1 : ad 112 = a1) (hcv : lv_has cv 4 (lLv b a0 a1 i)) (hc1 : cells ≤ 600000) (hc2 : slots ≤ 7302250)
    (kk : ∀ (H1 : Heap) (locs1 : List Loc) (ad' : Nat → Nat) (w' : zW), lS D ca s H1 locs1 ad' w' → zBoth w' → w'.1 = SH → ad' 0 = a0 → ad' 112 = a1 → W p l e room_1 s m #[Value.ref b] below meth c H1 locs1 cells slots Qs (F0 m 1408 cv [])) : W p l e room_1 s m #[Value.ref b] below meth c H locs cells slots Qs (F0 m pc cv []) := by
  have hx := C0.1.1
  have hb := C0.1.2.1
  obtain ⟨k1, hck⟩ := qand hck
  obtain ⟨k2, hck⟩ := qand hck
  obtain ⟨k3, hck⟩ := qand hck
  obtain ⟨k4, hck⟩ := qand hck
  obtain ⟨k5, hck⟩ := qand hck
  obtain ⟨k6, hck⟩ := qand hck
  obtain ⟨k7, hck⟩ := qand hck
  obtain ⟨k8, hck⟩ := qand hck
  obtain ⟨k9, k10⟩ := qand hck
  obtain ⟨u1, u2, u3, u4, u5, u6, u7⟩ := lmk_e k7
  obtain ⟨v1, v2, v3, v4, v5, v6, v7⟩ := lmk_e k8
  have k9 : zrk μ = zrk μ' := of_decide_eq_true k9
  have hlen : SH.length = 140 := rfl
  refine lv_aload_n hx hb (ldk_e k1) rfl (lv_at hcv 2 rfl) ?_
  refine l_args (ad := ad) C0 hL hs.2.2.1 hcv n _ (by omega) k2 ?_
  rw [← h0]
  refine l_virt (rest := []) C0 hs u1 u2 u3 u4 u5 (d := 9) (by omega) (by rw [hSH]; exact zk_0) (by rw [las_len]; exact u6) (las_vo n) (u7 _) hcv.1 (by decide) hc1 hc2 (ldk_e k3) (hp w hw) (fun r w1 ad1 H1 locs1 q1 q2 q3 q4 => ?_)
  obtain ⟨hSH1, hE⟩ := q1
  have a0' : ad1 0 = a0 := by rw [q4 0 (by rw [hSH, hlen]; omega), h0]
  have a1' : ad1 112 = a1 := by rw [q4 112 (by rw [hSH, hlen]; omega), h1]
  refine lv_aload_n hx hb (ldk_e k4) rfl (lv_at hcv 1 rfl) ?_
  refine l_args (ad := ad1) C0 hL q3.2.2.1 hcv n _ (by omega) k5 ?_
  rw [← a1']
  cases lg with
  | true =>
    obtain ⟨g1, g⟩ := qand k10
    obtain ⟨g2, g3⟩ := qand g
    have g1 : zrk μ' = 2 := of_decide_eq_true g1
    rw [k9, g1]
    refine l_virt (rest := [zL r]) C0 q3 v1 v2 v3 v4 v5 (d := 9) (by omega) (by rw [hSH1]; exact zk_112) (by rw [las_len]; exact v6) (las_vo n) (v7 _) hcv.1 (Nat.le_of_ble_eq_true rfl) hc1 hc2 (ldk_e k6) hE (fun r2 w2 ad2 H2 locs2 p1 p2 p3 p4 => ?_)
    obtain ⟨er, hSH2, hB⟩ := p1
    subst er
    rw [g1]
    refine W.lcmp hx hb (ldk_e g2) ?_
    have ez : lg_cmp (Int64.ofInt r2) (Int64.ofInt r2) = 0 := by
      unfold lg_cmp
      rw [if_neg (Int64.lt_irrefl), if_pos rfl]
    rw [ez]
    refine lv_if_eq (tgt := 1408) hx hb (ldk_e g3) (by omega) (fun _ => ?_) (fun q => absurd rfl q)
    exact kk H2 locs2 ad2 w2 p3 hB hSH2 (by rw [p4 0 (by rw [hSH1, hlen]; omega), a0']) (by rw [p4 112 (by rw [hSH1, hlen]; omega), a1'])
  | false =>
    obtain ⟨g1, g2⟩ := qand k10
    have g1 : zrk μ' ≠ 0 ∧ zrk μ' ≠ 2 ∧ zrk μ' ≠ 3 := of_decide_eq_true g1
    rw [k9, zrv_int g1]
    refine l_virt (rest := [zI r]) C0 q3 v1 v2 v3 v4 v5 (d := 9) (by omega) (by rw [hSH1]; exact zk_112) (by rw [las_len]; exact v6) (las_vo n) (v7 _) hcv.1 (Nat.le_of_ble_eq_true rfl) hc1 hc2 (ldk_e k6) hE (fun r2 w2 ad2 H2 locs2 p1 p2 p3 p4 => ?_)
    obtain ⟨er, hSH2, hB⟩ := p1
    subst er
    rw [zrv_int g1]
    refine lv_icmp_eq (tgt := 1408) hx hb (ldk_e g2) (by omega) (fun _ => ?_) (fun q => absurd rfl q)
    exact kk H2 locs2 ad2 w2 p3 hB hSH2 (by rw [p4 0 (by rw [hSH1, hlen]; omega), a0']) (by rw [p4 112 (by rw [hSH1, hlen]; omega), a1'])
end LB
