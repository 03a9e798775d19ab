/-! the class's calls, the rest -/
section PD
variable {d : Nat} {M M' L : zM} {Q : Int → zW → Prop} {P R : Nat → Nat} {ws : List (List Int)} {tx : List Int} {hs : List zLw} {kp : zKp} {ls : Nat → Option (List Int)} {rf : Nat → Int}
theorem isW_app {u v : List Int} (h : isW u) (h' : isW v) : isW (u ++ v) := fun a ha => by
  rcases List.mem_append.mp ha with q | q
  · exact h a q
  · exact h' a q
theorem c_lt_product {u v : Int} (hI : iC M P R ws tx hs kp ls rf) (h : ∀ M1 L1, jC M1 (opProduct P R ws tx hs kp ls rf u v).1 → aM M M1 → Q (opProduct P R ws tx hs kp ls rf u v).2 (SH, M1, L1)) : zEv (d + 9) m_lt_product [zR 0, zI u, zI v] (SH, M, L) Q := by
  unfold opProduct at h
  have z108 := zRow_108
  have h5 := hI.w5
  refine b_lt_product ?_
  (first | refine g_lt_product_0 ?_ | refine g_lt_product_5 ?_ | refine g_lt_product_13 ?_ | refine g_lt_product_21 ?_ | refine g_lt_product_34 (by assumption) ?_ | refine g_lt_product_37 ?_ | refine g_lt_product_49 (by assumption) ?_ | refine g_lt_product_52 ?_ | refine g_lt_product_59 ?_ | refine g_lt_product_71 ?_ | refine g_lt_product_80 ?_ | refine g_lt_product_92 ?_)
  refine e_lt_noWord hI.s ?_
  (first | refine g_lt_product_0 ?_ | refine g_lt_product_5 ?_ | refine g_lt_product_13 ?_ | refine g_lt_product_21 ?_ | refine g_lt_product_34 (by assumption) ?_ | refine g_lt_product_37 ?_ | refine g_lt_product_49 (by assumption) ?_ | refine g_lt_product_52 ?_ | refine g_lt_product_59 ?_ | refine g_lt_product_71 ?_ | refine g_lt_product_80 ?_ | refine g_lt_product_92 ?_)
  by_cases ga : wd ws u
  · obtain ⟨za, ru, hw, h14, h64⟩ := hI.w ga
    rw [if_pos ga, if_pos rfl]
    refine e_lt_noWord hI.s ?_
    (first | refine g_lt_product_0 ?_ | refine g_lt_product_5 ?_ | refine g_lt_product_13 ?_ | refine g_lt_product_21 ?_ | refine g_lt_product_34 (by assumption) ?_ | refine g_lt_product_37 ?_ | refine g_lt_product_49 (by assumption) ?_ | refine g_lt_product_52 ?_ | refine g_lt_product_59 ?_ | refine g_lt_product_71 ?_ | refine g_lt_product_80 ?_ | refine g_lt_product_92 ?_)
    by_cases gb : wd ws v
    · obtain ⟨zb, rv, hv, v14, v64⟩ := hI.w gb
      rw [if_pos ⟨ga, gb⟩] at h
      rw [if_pos gb, if_pos rfl]
      refine e_sh_rowI hI ga ?_
      rw [Int.toNat_natCast]
      (first | refine g_lt_product_0 ?_ | refine g_lt_product_5 ?_ | refine g_lt_product_13 ?_ | refine g_lt_product_21 ?_ | refine g_lt_product_34 (by assumption) ?_ | refine g_lt_product_37 ?_ | refine g_lt_product_49 (by assumption) ?_ | refine g_lt_product_52 ?_ | refine g_lt_product_59 ?_ | refine g_lt_product_71 ?_ | refine g_lt_product_80 ?_ | refine g_lt_product_92 ?_)
      refine e_ro_copy z108 za (by omega) ru (by rw [zc108]; omega) (fun M1 g1 f1 => ?_)
      have J := hI.D (f1.c (by decide) (by decide))
      obtain ⟨_, rv, _⟩ := J.1.w gb
      (first | refine g_lt_product_0 ?_ | refine g_lt_product_5 ?_ | refine g_lt_product_13 ?_ | refine g_lt_product_21 ?_ | refine g_lt_product_34 (by assumption) ?_ | refine g_lt_product_37 ?_ | refine g_lt_product_49 (by assumption) ?_ | refine g_lt_product_52 ?_ | refine g_lt_product_59 ?_ | refine g_lt_product_71 ?_ | refine g_lt_product_80 ?_ | refine g_lt_product_92 ?_)
      refine e_sh_rowI J.1 gb ?_
      rw [Int.toNat_natCast]
      (first | refine g_lt_product_0 ?_ | refine g_lt_product_5 ?_ | refine g_lt_product_13 ?_ | refine g_lt_product_21 ?_ | refine g_lt_product_34 (by assumption) ?_ | refine g_lt_product_37 ?_ | refine g_lt_product_49 (by assumption) ?_ | refine g_lt_product_52 ?_ | refine g_lt_product_59 ?_ | refine g_lt_product_71 ?_ | refine g_lt_product_80 ?_ | refine g_lt_product_92 ?_)
      refine e_ro_append z108 zb g1 rv (by rw [zc108]; omega) (fun M2 g2 f2 => ?_)
      have J2 := J.1.D (f2.c (by decide) (by decide))
      (first | refine g_lt_product_0 ?_ | refine g_lt_product_5 ?_ | refine g_lt_product_13 ?_ | refine g_lt_product_21 ?_ | refine g_lt_product_34 (by assumption) ?_ | refine g_lt_product_37 ?_ | refine g_lt_product_49 (by assumption) ?_ | refine g_lt_product_52 ?_ | refine g_lt_product_59 ?_ | refine g_lt_product_71 ?_ | refine g_lt_product_80 ?_ | refine g_lt_product_92 ?_)
      refine e_ro_size z108 g2 ?_
      (first | refine g_lt_product_0 ?_ | refine g_lt_product_5 ?_ | refine g_lt_product_13 ?_ | refine g_lt_product_21 ?_ | refine g_lt_product_34 (by assumption) ?_ | refine g_lt_product_37 ?_ | refine g_lt_product_49 (by assumption) ?_ | refine g_lt_product_52 ?_ | refine g_lt_product_59 ?_ | refine g_lt_product_71 ?_ | refine g_lt_product_80 ?_ | refine g_lt_product_92 ?_)
      rw [List.length_append]
      by_cases g3 : 14 < (gw ws u).length + (gw ws v).length
      · rw [if_pos (Or.inl g3)] at h
        rw [if_pos (by omega)]
        refine e_lt_no (k := 6) J2.1 (by omega) (fun M3 I f => ?_)
        (first | refine g_lt_product_0 ?_ | refine g_lt_product_5 ?_ | refine g_lt_product_13 ?_ | refine g_lt_product_21 ?_ | refine g_lt_product_34 (by assumption) ?_ | refine g_lt_product_37 ?_ | refine g_lt_product_49 (by assumption) ?_ | refine g_lt_product_52 ?_ | refine g_lt_product_59 ?_ | refine g_lt_product_71 ?_ | refine g_lt_product_80 ?_ | refine g_lt_product_92 ?_)
        exact h M3 L I ((J.2.tr J2.2).tr f)
      · rw [if_neg (by omega)]
        refine e_sh_isFull zShf_7 J2.1.s ?_
        (first | refine g_lt_product_0 ?_ | refine g_lt_product_5 ?_ | refine g_lt_product_13 ?_ | refine g_lt_product_21 ?_ | refine g_lt_product_34 (by assumption) ?_ | refine g_lt_product_37 ?_ | refine g_lt_product_49 (by assumption) ?_ | refine g_lt_product_52 ?_ | refine g_lt_product_59 ?_ | refine g_lt_product_71 ?_ | refine g_lt_product_80 ?_ | refine g_lt_product_92 ?_)
        by_cases g4 : ws.length < 5
        · rw [if_neg (by omega)] at h
          rw [if_pos g4, if_pos rfl]
          refine e_sh_place zShf_7 z108 J2.1.s g4 g2 (isW_app hw hv) (by rw [List.length_append]; omega) (by decide) (fun M3 g5 f3 => ?_)
          (first | refine g_lt_product_0 ?_ | refine g_lt_product_5 ?_ | refine g_lt_product_13 ?_ | refine g_lt_product_21 ?_ | refine g_lt_product_34 (by assumption) ?_ | refine g_lt_product_37 ?_ | refine g_lt_product_49 (by assumption) ?_ | refine g_lt_product_52 ?_ | refine g_lt_product_59 ?_ | refine g_lt_product_71 ?_ | refine g_lt_product_80 ?_ | refine g_lt_product_92 ?_)
          exact h M3 L (J2.1.sx f3 (by decide) g5) ((J.2.tr J2.2).tr (f3.aM (by decide)))
        · rw [if_pos (by omega)] at h
          rw [if_neg g4, if_neg (by decide)]
          refine e_lt_no (k := 6) J2.1 (by omega) (fun M3 I f => ?_)
          (first | refine g_lt_product_0 ?_ | refine g_lt_product_5 ?_ | refine g_lt_product_13 ?_ | refine g_lt_product_21 ?_ | refine g_lt_product_34 (by assumption) ?_ | refine g_lt_product_37 ?_ | refine g_lt_product_49 (by assumption) ?_ | refine g_lt_product_52 ?_ | refine g_lt_product_59 ?_ | refine g_lt_product_71 ?_ | refine g_lt_product_80 ?_ | refine g_lt_product_92 ?_)
          exact h M3 L I ((J.2.tr J2.2).tr f)
    · rw [if_neg (fun q => gb q.2)] at h
      rw [if_neg gb, if_neg (by decide)]
      (refine e_lt_no (k := 1) hI (by omega) (fun M1 I f => ?_); (first | refine g_lt_product_0 ?_ | refine g_lt_product_5 ?_ | refine g_lt_product_13 ?_ | refine g_lt_product_21 ?_ | refine g_lt_product_34 (by assumption) ?_ | refine g_lt_product_37 ?_ | refine g_lt_product_49 (by assumption) ?_ | refine g_lt_product_52 ?_ | refine g_lt_product_59 ?_ | refine g_lt_product_71 ?_ | refine g_lt_product_80 ?_ | refine g_lt_product_92 ?_); exact h M1 L I f)
  · rw [if_neg (fun q => ga q.1)] at h
    rw [if_neg ga, if_neg (by decide)]
    (refine e_lt_no (k := 1) hI (by omega) (fun M1 I f => ?_); (first | refine g_lt_product_0 ?_ | refine g_lt_product_5 ?_ | refine g_lt_product_13 ?_ | refine g_lt_product_21 ?_ | refine g_lt_product_34 (by assumption) ?_ | refine g_lt_product_37 ?_ | refine g_lt_product_49 (by assumption) ?_ | refine g_lt_product_52 ?_ | refine g_lt_product_59 ?_ | refine g_lt_product_71 ?_ | refine g_lt_product_80 ?_ | refine g_lt_product_92 ?_); exact h M1 L I f)
theorem zcmp_pos {x y : Int} : 0 < zcmp x y ↔ y < x := by
  unfold zcmp
  by_cases h : y < x
  · rw [if_pos h]; omega
  · rw [if_neg h]
    by_cases h2 : x = y
    · rw [if_pos h2]; omega
    · rw [if_neg h2]; omega
theorem mul14 {a : Nat} {n : Int} (h : a ≤ 14) (h0 : 0 ≤ n) (hn : n < 2147483648) : (a : Int) * n ≤ 14 * n ∧ 0 ≤ (a : Int) * n := ⟨Int.mul_le_mul_of_nonneg_right (by omega) h0, Int.mul_nonneg (by omega) h0⟩
theorem c_lt_power {u n : Int} (hn : zr32 n) (hI : iC M P R ws tx hs kp ls rf) (h : ∀ M1 L1, jC M1 (opPower P R ws tx hs kp ls rf u n).1 → aM M M1 → Q (opPower P R ws tx hs kp ls rf u n).2 (SH, M1, L1)) : zEv (d + 9) m_lt_power [zR 0, zI u, zI n] (SH, M, L) Q := by
  unfold opPower at h
  unfold zr32 at hn
  have z108 := zRow_108
  have h5 := hI.w5
  refine b_lt_power ?_
  (first | refine g_lt_power_0 ?_ | refine g_lt_power_5 ?_ | refine g_lt_power_13 ?_ | refine g_lt_power_24 ?_ | refine g_lt_power_33 (by assumption) ?_ | refine g_lt_power_38 (by assumption) ?_ | refine g_lt_power_56 (by assumption) ?_ | refine g_lt_power_65 (by assumption) ?_ | refine g_lt_power_73 (by assumption) ?_ | refine g_lt_power_82 (by assumption) ?_ | refine g_lt_power_93 (by assumption) ?_)
  refine e_lt_noWord hI.s ?_
  (first | refine g_lt_power_0 ?_ | refine g_lt_power_5 ?_ | refine g_lt_power_13 ?_ | refine g_lt_power_24 ?_ | refine g_lt_power_33 (by assumption) ?_ | refine g_lt_power_38 (by assumption) ?_ | refine g_lt_power_56 (by assumption) ?_ | refine g_lt_power_65 (by assumption) ?_ | refine g_lt_power_73 (by assumption) ?_ | refine g_lt_power_82 (by assumption) ?_ | refine g_lt_power_93 (by assumption) ?_)
  by_cases g : wd ws u
  · obtain ⟨za, ru, hw, h14, h64⟩ := hI.w g
    rw [if_pos g] at h ⊢
    rw [if_pos rfl]
    by_cases g2 : n < 0
    · rw [if_pos g2] at h ⊢
      (refine e_lt_no (k := 4) hI (by omega) (fun M1 I f => ?_); (first | refine g_lt_power_0 ?_ | refine g_lt_power_5 ?_ | refine g_lt_power_13 ?_ | refine g_lt_power_24 ?_ | refine g_lt_power_33 (by assumption) ?_ | refine g_lt_power_38 (by assumption) ?_ | refine g_lt_power_56 (by assumption) ?_ | refine g_lt_power_65 (by assumption) ?_ | refine g_lt_power_73 (by assumption) ?_ | refine g_lt_power_82 (by assumption) ?_ | refine g_lt_power_93 (by assumption) ?_); exact h M1 L I f)
    · rw [if_neg g2] at h ⊢
      have hm := mul14 h14 (show 0 ≤ n by omega) (by omega)
      refine e_sh_rowI hI g ?_
      rw [Int.toNat_natCast]
      (first | refine g_lt_power_0 ?_ | refine g_lt_power_5 ?_ | refine g_lt_power_13 ?_ | refine g_lt_power_24 ?_ | refine g_lt_power_33 (by assumption) ?_ | refine g_lt_power_38 (by assumption) ?_ | refine g_lt_power_56 (by assumption) ?_ | refine g_lt_power_65 (by assumption) ?_ | refine g_lt_power_73 (by assumption) ?_ | refine g_lt_power_82 (by assumption) ?_ | refine g_lt_power_93 (by assumption) ?_)
      refine e_ro_size za ru ?_
      (first | refine g_lt_power_0 ?_ | refine g_lt_power_5 ?_ | refine g_lt_power_13 ?_ | refine g_lt_power_24 ?_ | refine g_lt_power_33 (by assumption) ?_ | refine g_lt_power_38 (by assumption) ?_ | refine g_lt_power_56 (by assumption) ?_ | refine g_lt_power_65 (by assumption) ?_ | refine g_lt_power_73 (by assumption) ?_ | refine g_lt_power_82 (by assumption) ?_ | refine g_lt_power_93 (by assumption) ?_)
      rw [zwl_id (by omega) (by omega)]
      by_cases g3 : 14 < ((gw ws u).length : Int) * n
      · rw [if_pos (Or.inl g3)] at h
        rw [if_pos (zcmp_pos.mpr g3)]
        (refine e_lt_no (k := 6) hI (by omega) (fun M1 I f => ?_); (first | refine g_lt_power_0 ?_ | refine g_lt_power_5 ?_ | refine g_lt_power_13 ?_ | refine g_lt_power_24 ?_ | refine g_lt_power_33 (by assumption) ?_ | refine g_lt_power_38 (by assumption) ?_ | refine g_lt_power_56 (by assumption) ?_ | refine g_lt_power_65 (by assumption) ?_ | refine g_lt_power_73 (by assumption) ?_ | refine g_lt_power_82 (by assumption) ?_ | refine g_lt_power_93 (by assumption) ?_); exact h M1 L I f)
      · rw [if_neg (fun q => g3 (zcmp_pos.mp q))]
        refine e_sh_isFull zShf_7 hI.s ?_
        (first | refine g_lt_power_0 ?_ | refine g_lt_power_5 ?_ | refine g_lt_power_13 ?_ | refine g_lt_power_24 ?_ | refine g_lt_power_33 (by assumption) ?_ | refine g_lt_power_38 (by assumption) ?_ | refine g_lt_power_56 (by assumption) ?_ | refine g_lt_power_65 (by assumption) ?_ | refine g_lt_power_73 (by assumption) ?_ | refine g_lt_power_82 (by assumption) ?_ | refine g_lt_power_93 (by assumption) ?_)
        by_cases g4 : ws.length < 5
        · rw [if_neg (by omega)] at h
          rw [if_pos g4, if_pos rfl]
          refine e_ro_clear z108 (fun M1 g1 f1 => ?_)
          have J := hI.D (f1.c (by decide) (by decide))
          obtain ⟨_, ru, _⟩ := J.1.w g
          (first | refine g_lt_power_0 ?_ | refine g_lt_power_5 ?_ | refine g_lt_power_13 ?_ | refine g_lt_power_24 ?_ | refine g_lt_power_33 (by assumption) ?_ | refine g_lt_power_38 (by assumption) ?_ | refine g_lt_power_56 (by assumption) ?_ | refine g_lt_power_65 (by assumption) ?_ | refine g_lt_power_73 (by assumption) ?_ | refine g_lt_power_82 (by assumption) ?_ | refine g_lt_power_93 (by assumption) ?_)
          have hc : n * ((gw ws u).length : Int) = ((gw ws u).length : Int) * n := Int.mul_comm _ _
          refine e_ro_appendTimes z108 za (by omega) g1 ru (by omega) (by rw [zc108, hc]; simp; omega) (fun M2 g5 f2 => ?_)
          have J2 := J.1.D (f2.c (by decide) (by decide))
          rw [List.nil_append] at g5
          have g5 : rIs M2 108 (rpt n.toNat (gw ws u)) := g5
          have hl : (rpt n.toNat (gw ws u)).length ≤ 14 := by
            have e1 := rpt_len (k := n.toNat) (v := gw ws u)
            have e2 : ((n.toNat * (gw ws u).length : Nat) : Int) = n * ((gw ws u).length : Int) := by rw [Int.natCast_mul, Int.toNat_of_nonneg (by omega)]
            omega
          (first | refine g_lt_power_0 ?_ | refine g_lt_power_5 ?_ | refine g_lt_power_13 ?_ | refine g_lt_power_24 ?_ | refine g_lt_power_33 (by assumption) ?_ | refine g_lt_power_38 (by assumption) ?_ | refine g_lt_power_56 (by assumption) ?_ | refine g_lt_power_65 (by assumption) ?_ | refine g_lt_power_73 (by assumption) ?_ | refine g_lt_power_82 (by assumption) ?_ | refine g_lt_power_93 (by assumption) ?_)
          refine e_sh_place zShf_7 z108 J2.1.s g4 g5 (rpt_isW hw) hl (by decide) (fun M3 g6 f3 => ?_)
          (first | refine g_lt_power_0 ?_ | refine g_lt_power_5 ?_ | refine g_lt_power_13 ?_ | refine g_lt_power_24 ?_ | refine g_lt_power_33 (by assumption) ?_ | refine g_lt_power_38 (by assumption) ?_ | refine g_lt_power_56 (by assumption) ?_ | refine g_lt_power_65 (by assumption) ?_ | refine g_lt_power_73 (by assumption) ?_ | refine g_lt_power_82 (by assumption) ?_ | refine g_lt_power_93 (by assumption) ?_)
          exact h M3 L (J2.1.sx f3 (by decide) g6) ((J.2.tr J2.2).tr (f3.aM (by decide)))
        · rw [if_pos (by omega)] at h
          rw [if_neg g4, if_neg (by decide)]
          (refine e_lt_no (k := 6) hI (by omega) (fun M1 I f => ?_); (first | refine g_lt_power_0 ?_ | refine g_lt_power_5 ?_ | refine g_lt_power_13 ?_ | refine g_lt_power_24 ?_ | refine g_lt_power_33 (by assumption) ?_ | refine g_lt_power_38 (by assumption) ?_ | refine g_lt_power_56 (by assumption) ?_ | refine g_lt_power_65 (by assumption) ?_ | refine g_lt_power_73 (by assumption) ?_ | refine g_lt_power_82 (by assumption) ?_ | refine g_lt_power_93 (by assumption) ?_); exact h M1 L I f)
  · rw [if_neg g] at h ⊢
    rw [if_neg (by decide)]
    (refine e_lt_no (k := 1) hI (by omega) (fun M1 I f => ?_); (first | refine g_lt_power_0 ?_ | refine g_lt_power_5 ?_ | refine g_lt_power_13 ?_ | refine g_lt_power_24 ?_ | refine g_lt_power_33 (by assumption) ?_ | refine g_lt_power_38 (by assumption) ?_ | refine g_lt_power_56 (by assumption) ?_ | refine g_lt_power_65 (by assumption) ?_ | refine g_lt_power_73 (by assumption) ?_ | refine g_lt_power_82 (by assumption) ?_ | refine g_lt_power_93 (by assumption) ?_); exact h M1 L I f)
def cE : List Nat := [83, 84, 85, 86, 87, 88, 108, 109, 110, 111]
theorem iC.E (hI : iC M P R ws tx hs kp ls rf) (hf : cFr cE M M') : iC M' P R ws tx hs kp ls rf ∧ aM M M' := ⟨hI.fr hf (by decide), hf.aM (by decide)⟩
theorem c_lt_changes {u v : Int} (hI : iC M P R ws tx hs kp ls rf) (h : ∀ M1 L1, jC M1 (opChanges P R ws tx hs kp ls rf u v).1 → aM M M1 → Q (opChanges P R ws tx hs kp ls rf u v).2 (SH, M1, L1)) : zEv (d + 9) m_lt_changes [zR 0, zI u, zI v] (SH, M, L) Q := by
  unfold opChanges at h
  have z108 := zRow_108
  have z110 := zRow_110
  refine b_lt_changes ?_
  (first | refine g_lt_changes_0 ?_ | refine g_lt_changes_5 ?_ | refine g_lt_changes_13 ?_ | refine g_lt_changes_21 ?_ | refine g_lt_changes_34 (by assumption) ?_ | refine g_lt_changes_37 ?_ | refine g_lt_changes_49 (by assumption) ?_ | refine g_lt_changes_52 ?_ | refine g_lt_changes_64 (by assumption) ?_ | refine g_lt_changes_67 ?_ | refine g_lt_changes_79 (by assumption) ?_ | refine g_lt_changes_82 ?_ | refine g_lt_changes_97 ?_ | refine g_lt_changes_100 ?_)
  refine e_lt_noWord hI.s ?_
  (first | refine g_lt_changes_0 ?_ | refine g_lt_changes_5 ?_ | refine g_lt_changes_13 ?_ | refine g_lt_changes_21 ?_ | refine g_lt_changes_34 (by assumption) ?_ | refine g_lt_changes_37 ?_ | refine g_lt_changes_49 (by assumption) ?_ | refine g_lt_changes_52 ?_ | refine g_lt_changes_64 (by assumption) ?_ | refine g_lt_changes_67 ?_ | refine g_lt_changes_79 (by assumption) ?_ | refine g_lt_changes_82 ?_ | refine g_lt_changes_97 ?_ | refine g_lt_changes_100 ?_)
  by_cases ga : wd ws u
  · obtain ⟨za, ru, hw, h14, h64⟩ := hI.w ga
    rw [if_pos ga, if_pos rfl]
    refine e_lt_noWord hI.s ?_
    (first | refine g_lt_changes_0 ?_ | refine g_lt_changes_5 ?_ | refine g_lt_changes_13 ?_ | refine g_lt_changes_21 ?_ | refine g_lt_changes_34 (by assumption) ?_ | refine g_lt_changes_37 ?_ | refine g_lt_changes_49 (by assumption) ?_ | refine g_lt_changes_52 ?_ | refine g_lt_changes_64 (by assumption) ?_ | refine g_lt_changes_67 ?_ | refine g_lt_changes_79 (by assumption) ?_ | refine g_lt_changes_82 ?_ | refine g_lt_changes_97 ?_ | refine g_lt_changes_100 ?_)
    by_cases gb : wd ws v
    · obtain ⟨zb, rv, hv, v14, v64⟩ := hI.w gb
      rw [if_pos ⟨ga, gb⟩] at h
      rw [if_pos gb, if_pos rfl]
      refine e_sh_rowI hI ga ?_
      rw [Int.toNat_natCast]
      (first | refine g_lt_changes_0 ?_ | refine g_lt_changes_5 ?_ | refine g_lt_changes_13 ?_ | refine g_lt_changes_21 ?_ | refine g_lt_changes_34 (by assumption) ?_ | refine g_lt_changes_37 ?_ | refine g_lt_changes_49 (by assumption) ?_ | refine g_lt_changes_52 ?_ | refine g_lt_changes_64 (by assumption) ?_ | refine g_lt_changes_67 ?_ | refine g_lt_changes_79 (by assumption) ?_ | refine g_lt_changes_82 ?_ | refine g_lt_changes_97 ?_ | refine g_lt_changes_100 ?_)
      refine e_ro_copy z108 za (by omega) ru (by rw [zc108]; omega) (fun M1 g1 f1 => ?_)
      have J1 := hI.E (f1.c (by decide) (by decide))
      obtain ⟨_, rv, _⟩ := J1.1.w gb
      (first | refine g_lt_changes_0 ?_ | refine g_lt_changes_5 ?_ | refine g_lt_changes_13 ?_ | refine g_lt_changes_21 ?_ | refine g_lt_changes_34 (by assumption) ?_ | refine g_lt_changes_37 ?_ | refine g_lt_changes_49 (by assumption) ?_ | refine g_lt_changes_52 ?_ | refine g_lt_changes_64 (by assumption) ?_ | refine g_lt_changes_67 ?_ | refine g_lt_changes_79 (by assumption) ?_ | refine g_lt_changes_82 ?_ | refine g_lt_changes_97 ?_ | refine g_lt_changes_100 ?_)
      refine e_sh_rowI J1.1 gb ?_
      rw [Int.toNat_natCast]
      (first | refine g_lt_changes_0 ?_ | refine g_lt_changes_5 ?_ | refine g_lt_changes_13 ?_ | refine g_lt_changes_21 ?_ | refine g_lt_changes_34 (by assumption) ?_ | refine g_lt_changes_37 ?_ | refine g_lt_changes_49 (by assumption) ?_ | refine g_lt_changes_52 ?_ | refine g_lt_changes_64 (by assumption) ?_ | refine g_lt_changes_67 ?_ | refine g_lt_changes_79 (by assumption) ?_ | refine g_lt_changes_82 ?_ | refine g_lt_changes_97 ?_ | refine g_lt_changes_100 ?_)
      refine e_ro_append z108 zb g1 rv (by rw [zc108]; omega) (fun M2 g2 f2 => ?_)
      have J2 := J1.1.E (f2.c (by decide) (by decide))
      obtain ⟨_, rv, _⟩ := J2.1.w gb
      (first | refine g_lt_changes_0 ?_ | refine g_lt_changes_5 ?_ | refine g_lt_changes_13 ?_ | refine g_lt_changes_21 ?_ | refine g_lt_changes_34 (by assumption) ?_ | refine g_lt_changes_37 ?_ | refine g_lt_changes_49 (by assumption) ?_ | refine g_lt_changes_52 ?_ | refine g_lt_changes_64 (by assumption) ?_ | refine g_lt_changes_67 ?_ | refine g_lt_changes_79 (by assumption) ?_ | refine g_lt_changes_82 ?_ | refine g_lt_changes_97 ?_ | refine g_lt_changes_100 ?_)
      refine e_sh_rowI J2.1 gb ?_
      rw [Int.toNat_natCast]
      (first | refine g_lt_changes_0 ?_ | refine g_lt_changes_5 ?_ | refine g_lt_changes_13 ?_ | refine g_lt_changes_21 ?_ | refine g_lt_changes_34 (by assumption) ?_ | refine g_lt_changes_37 ?_ | refine g_lt_changes_49 (by assumption) ?_ | refine g_lt_changes_52 ?_ | refine g_lt_changes_64 (by assumption) ?_ | refine g_lt_changes_67 ?_ | refine g_lt_changes_79 (by assumption) ?_ | refine g_lt_changes_82 ?_ | refine g_lt_changes_97 ?_ | refine g_lt_changes_100 ?_)
      refine e_ro_copy z110 zb (by omega) rv (by rw [zc110]; omega) (fun M3 g3 f3 => ?_)
      have J3 := J2.1.E (f3.c (by decide) (by decide))
      obtain ⟨_, ru, _⟩ := J3.1.w ga
      (first | refine g_lt_changes_0 ?_ | refine g_lt_changes_5 ?_ | refine g_lt_changes_13 ?_ | refine g_lt_changes_21 ?_ | refine g_lt_changes_34 (by assumption) ?_ | refine g_lt_changes_37 ?_ | refine g_lt_changes_49 (by assumption) ?_ | refine g_lt_changes_52 ?_ | refine g_lt_changes_64 (by assumption) ?_ | refine g_lt_changes_67 ?_ | refine g_lt_changes_79 (by assumption) ?_ | refine g_lt_changes_82 ?_ | refine g_lt_changes_97 ?_ | refine g_lt_changes_100 ?_)
      refine e_sh_rowI J3.1 ga ?_
      rw [Int.toNat_natCast]
      (first | refine g_lt_changes_0 ?_ | refine g_lt_changes_5 ?_ | refine g_lt_changes_13 ?_ | refine g_lt_changes_21 ?_ | refine g_lt_changes_34 (by assumption) ?_ | refine g_lt_changes_37 ?_ | refine g_lt_changes_49 (by assumption) ?_ | refine g_lt_changes_52 ?_ | refine g_lt_changes_64 (by assumption) ?_ | refine g_lt_changes_67 ?_ | refine g_lt_changes_79 (by assumption) ?_ | refine g_lt_changes_82 ?_ | refine g_lt_changes_97 ?_ | refine g_lt_changes_100 ?_)
      refine e_ro_append z110 za g3 ru (by rw [zc110]; omega) (fun M4 g4 f4 => ?_)
      have J4 := J3.1.E (f4.c (by decide) (by decide))
      have g2' := f4.row z110 z108 (by omega) (f3.row z110 z108 (by omega) g2)
      (first | refine g_lt_changes_0 ?_ | refine g_lt_changes_5 ?_ | refine g_lt_changes_13 ?_ | refine g_lt_changes_21 ?_ | refine g_lt_changes_34 (by assumption) ?_ | refine g_lt_changes_37 ?_ | refine g_lt_changes_49 (by assumption) ?_ | refine g_lt_changes_52 ?_ | refine g_lt_changes_64 (by assumption) ?_ | refine g_lt_changes_67 ?_ | refine g_lt_changes_79 (by assumption) ?_ | refine g_lt_changes_82 ?_ | refine g_lt_changes_97 ?_ | refine g_lt_changes_100 ?_)
      refine e_be_sameKind z108 z110 (by decide) (by decide) g2' g4 (isW_app hw hv) (isW_app hv hw) J4.1.l hI.lo (by rw [List.length_append]; omega) (by rw [List.length_append]; omega) (fun M5 f5 => ?_)
      have J5 := J4.1.E (f5.up (by decide))
      (first | refine g_lt_changes_0 ?_ | refine g_lt_changes_5 ?_ | refine g_lt_changes_13 ?_ | refine g_lt_changes_21 ?_ | refine g_lt_changes_34 (by assumption) ?_ | refine g_lt_changes_37 ?_ | refine g_lt_changes_49 (by assumption) ?_ | refine g_lt_changes_52 ?_ | refine g_lt_changes_64 (by assumption) ?_ | refine g_lt_changes_67 ?_ | refine g_lt_changes_79 (by assumption) ?_ | refine g_lt_changes_82 ?_ | refine g_lt_changes_97 ?_ | refine g_lt_changes_100 ?_)
      refine e_lt_answer ?_
      (first | refine g_lt_changes_0 ?_ | refine g_lt_changes_5 ?_ | refine g_lt_changes_13 ?_ | refine g_lt_changes_21 ?_ | refine g_lt_changes_34 (by assumption) ?_ | refine g_lt_changes_37 ?_ | refine g_lt_changes_49 (by assumption) ?_ | refine g_lt_changes_52 ?_ | refine g_lt_changes_64 (by assumption) ?_ | refine g_lt_changes_67 ?_ | refine g_lt_changes_79 (by assumption) ?_ | refine g_lt_changes_82 ?_ | refine g_lt_changes_97 ?_ | refine g_lt_changes_100 ?_)
      have e := h M5 L J5.1 ((((J1.2.tr J2.2).tr J3.2).tr J4.2).tr J5.2)
      by_cases gl : lw P R false (gw ws u ++ gw ws v) = lw P R false (gw ws v ++ gw ws u)
      · rw [if_pos gl] at e ⊢; exact e
      · rw [if_neg gl] at e ⊢; exact e
    · rw [if_neg (fun q => gb q.2)] at h
      rw [if_neg gb, if_neg (by decide)]
      (refine e_lt_no (k := 1) hI (by omega) (fun M1 I f => ?_); (first | refine g_lt_changes_0 ?_ | refine g_lt_changes_5 ?_ | refine g_lt_changes_13 ?_ | refine g_lt_changes_21 ?_ | refine g_lt_changes_34 (by assumption) ?_ | refine g_lt_changes_37 ?_ | refine g_lt_changes_49 (by assumption) ?_ | refine g_lt_changes_52 ?_ | refine g_lt_changes_64 (by assumption) ?_ | refine g_lt_changes_67 ?_ | refine g_lt_changes_79 (by assumption) ?_ | refine g_lt_changes_82 ?_ | refine g_lt_changes_97 ?_ | refine g_lt_changes_100 ?_); exact h M1 L I f)
  · rw [if_neg (fun q => ga q.1)] at h
    rw [if_neg ga, if_neg (by decide)]
    (refine e_lt_no (k := 1) hI (by omega) (fun M1 I f => ?_); (first | refine g_lt_changes_0 ?_ | refine g_lt_changes_5 ?_ | refine g_lt_changes_13 ?_ | refine g_lt_changes_21 ?_ | refine g_lt_changes_34 (by assumption) ?_ | refine g_lt_changes_37 ?_ | refine g_lt_changes_49 (by assumption) ?_ | refine g_lt_changes_52 ?_ | refine g_lt_changes_64 (by assumption) ?_ | refine g_lt_changes_67 ?_ | refine g_lt_changes_79 (by assumption) ?_ | refine g_lt_changes_82 ?_ | refine g_lt_changes_97 ?_ | refine g_lt_changes_100 ?_); exact h M1 L I f)
theorem c_lt_root {w i : Int} (hI : iC M P R ws tx hs kp ls rf) (h : ∀ M1 L1, jC M1 (opRoot P R ws tx hs kp ls rf w i).1 → aM M M1 → Q (opRoot P R ws tx hs kp ls rf w i).2 (SH, M1, L1)) : zEv (d + 9) m_lt_root [zR 0, zI w, zI i] (SH, M, L) Q := by
  unfold opRoot at h
  have z108 := zRow_108
  refine b_lt_root ?_
  (first | refine g_lt_root_0 ?_ | refine g_lt_root_5 ?_ | refine g_lt_root_13 ?_ | refine g_lt_root_25 ?_ | refine g_lt_root_34 (by assumption) ?_ | refine g_lt_root_39 (by assumption) ?_ | refine g_lt_root_48 (by assumption) ?_ | refine g_lt_root_61 (by assumption) ?_ | refine g_lt_root_81 (by assumption) ?_)
  refine e_lt_noWord hI.s ?_
  (first | refine g_lt_root_0 ?_ | refine g_lt_root_5 ?_ | refine g_lt_root_13 ?_ | refine g_lt_root_25 ?_ | refine g_lt_root_34 (by assumption) ?_ | refine g_lt_root_39 (by assumption) ?_ | refine g_lt_root_48 (by assumption) ?_ | refine g_lt_root_61 (by assumption) ?_ | refine g_lt_root_81 (by assumption) ?_)
  by_cases g : wd ws w
  · obtain ⟨za, ru, hw, h14, h64⟩ := hI.w g
    rw [if_pos g] at h ⊢
    rw [if_pos rfl]
    by_cases g2 : i < -1
    · rw [if_pos g2] at h ⊢
      (refine e_lt_no (k := 4) hI (by omega) (fun M1 I f => ?_); (first | refine g_lt_root_0 ?_ | refine g_lt_root_5 ?_ | refine g_lt_root_13 ?_ | refine g_lt_root_25 ?_ | refine g_lt_root_34 (by assumption) ?_ | refine g_lt_root_39 (by assumption) ?_ | refine g_lt_root_48 (by assumption) ?_ | refine g_lt_root_61 (by assumption) ?_ | refine g_lt_root_81 (by assumption) ?_); exact h M1 L I f)
    · rw [if_neg g2] at h ⊢
      refine e_sh_rowI hI g ?_
      rw [Int.toNat_natCast]
      (first | refine g_lt_root_0 ?_ | refine g_lt_root_5 ?_ | refine g_lt_root_13 ?_ | refine g_lt_root_25 ?_ | refine g_lt_root_34 (by assumption) ?_ | refine g_lt_root_39 (by assumption) ?_ | refine g_lt_root_48 (by assumption) ?_ | refine g_lt_root_61 (by assumption) ?_ | refine g_lt_root_81 (by assumption) ?_)
      refine e_ro_size za ru ?_
      (first | refine g_lt_root_0 ?_ | refine g_lt_root_5 ?_ | refine g_lt_root_13 ?_ | refine g_lt_root_25 ?_ | refine g_lt_root_34 (by assumption) ?_ | refine g_lt_root_39 (by assumption) ?_ | refine g_lt_root_48 (by assumption) ?_ | refine g_lt_root_61 (by assumption) ?_ | refine g_lt_root_81 (by assumption) ?_)
      by_cases g3 : gw ws w = []
      · rw [if_pos g3] at h
        rw [if_pos (by rw [g3]; rfl)]
        (refine e_lt_no (k := 3) hI (by omega) (fun M1 I f => ?_); (first | refine g_lt_root_0 ?_ | refine g_lt_root_5 ?_ | refine g_lt_root_13 ?_ | refine g_lt_root_25 ?_ | refine g_lt_root_34 (by assumption) ?_ | refine g_lt_root_39 (by assumption) ?_ | refine g_lt_root_48 (by assumption) ?_ | refine g_lt_root_61 (by assumption) ?_ | refine g_lt_root_81 (by assumption) ?_); exact h M1 L I f)
      · have g0 := List.length_pos_iff.mpr g3
        rw [if_neg g3] at h
        rw [if_neg (by omega)]
        refine e_be_takeRoot za h64 hI.lo hI.l ru hw g0 h14 (fun k hk M1 g1 f1 => ?_)
        have J := hI.D f1
        have e := h M1 L J.1 J.2
        rw [rtN_is hk] at e
        (first | refine g_lt_root_0 ?_ | refine g_lt_root_5 ?_ | refine g_lt_root_13 ?_ | refine g_lt_root_25 ?_ | refine g_lt_root_34 (by assumption) ?_ | refine g_lt_root_39 (by assumption) ?_ | refine g_lt_root_48 (by assumption) ?_ | refine g_lt_root_61 (by assumption) ?_ | refine g_lt_root_81 (by assumption) ?_)
        by_cases g4 : i = -1
        · rw [if_pos g4] at e ⊢
          (first | refine g_lt_root_0 ?_ | refine g_lt_root_5 ?_ | refine g_lt_root_13 ?_ | refine g_lt_root_25 ?_ | refine g_lt_root_34 (by assumption) ?_ | refine g_lt_root_39 (by assumption) ?_ | refine g_lt_root_48 (by assumption) ?_ | refine g_lt_root_61 (by assumption) ?_ | refine g_lt_root_81 (by assumption) ?_)
          exact e
        · rw [if_neg g4] at e ⊢
          refine e_ro_get z108 g1 ?_
          (first | refine g_lt_root_0 ?_ | refine g_lt_root_5 ?_ | refine g_lt_root_13 ?_ | refine g_lt_root_25 ?_ | refine g_lt_root_34 (by assumption) ?_ | refine g_lt_root_39 (by assumption) ?_ | refine g_lt_root_48 (by assumption) ?_ | refine g_lt_root_61 (by assumption) ?_ | refine g_lt_root_81 (by assumption) ?_)
          exact e
  · rw [if_neg g] at h ⊢
    rw [if_neg (by decide)]
    (refine e_lt_no (k := 1) hI (by omega) (fun M1 I f => ?_); (first | refine g_lt_root_0 ?_ | refine g_lt_root_5 ?_ | refine g_lt_root_13 ?_ | refine g_lt_root_25 ?_ | refine g_lt_root_34 (by assumption) ?_ | refine g_lt_root_39 (by assumption) ?_ | refine g_lt_root_48 (by assumption) ?_ | refine g_lt_root_61 (by assumption) ?_ | refine g_lt_root_81 (by assumption) ?_); exact h M1 L I f)
theorem lbits_64 {u : List Int} (h : isW u) : lbits u < 64 := lbits_lt u 0 h (by omega)
theorem c_lt_parts {w a : Int} (hI : iC M P R ws tx hs kp ls rf) (h : ∀ M1 L1, jC M1 (opParts P R ws tx hs kp ls rf w a).1 → aM M M1 → Q (opParts P R ws tx hs kp ls rf w a).2 (SH, M1, L1)) : zEv (d + 9) m_lt_parts [zR 0, zI w, zI a] (SH, M, L) Q := by
  unfold opParts at h
  refine b_lt_parts ?_
  (first | refine g_lt_parts_0 ?_ | refine g_lt_parts_5 ?_ | refine g_lt_parts_24 ?_ | refine g_lt_parts_33 (by assumption) ?_ | refine g_lt_parts_36 ?_ | refine g_lt_parts_50 ?_ | refine g_lt_parts_62 ?_)
  refine e_lt_noWord hI.s ?_
  (first | refine g_lt_parts_0 ?_ | refine g_lt_parts_5 ?_ | refine g_lt_parts_24 ?_ | refine g_lt_parts_33 (by assumption) ?_ | refine g_lt_parts_36 ?_ | refine g_lt_parts_50 ?_ | refine g_lt_parts_62 ?_)
  by_cases g : wd ws w
  · obtain ⟨za, ru, hw, h14, h64⟩ := hI.w g
    rw [if_pos g, if_pos rfl]
    by_cases g2 : a < -1
    · rw [if_neg (by omega)] at h
      rw [if_pos g2]
      (refine e_lt_no (k := 1) hI (by omega) (fun M1 I f => ?_); (first | refine g_lt_parts_0 ?_ | refine g_lt_parts_5 ?_ | refine g_lt_parts_24 ?_ | refine g_lt_parts_33 (by assumption) ?_ | refine g_lt_parts_36 ?_ | refine g_lt_parts_50 ?_ | refine g_lt_parts_62 ?_); exact h M1 L I f)
    · rw [if_neg g2]
      by_cases g3 : a < 6
      · rw [if_pos ⟨g, by omega, g3⟩] at h
        rw [if_pos g3]
        refine e_sh_rowI hI g ?_
        rw [Int.toNat_natCast]
        (first | refine g_lt_parts_0 ?_ | refine g_lt_parts_5 ?_ | refine g_lt_parts_24 ?_ | refine g_lt_parts_33 (by assumption) ?_ | refine g_lt_parts_36 ?_ | refine g_lt_parts_50 ?_ | refine g_lt_parts_62 ?_)
        refine e_ro_letters za ru hw ?_
        (first | refine g_lt_parts_0 ?_ | refine g_lt_parts_5 ?_ | refine g_lt_parts_24 ?_ | refine g_lt_parts_33 (by assumption) ?_ | refine g_lt_parts_36 ?_ | refine g_lt_parts_50 ?_ | refine g_lt_parts_62 ?_)
        by_cases g4 : a = -1
        · rw [if_pos g4] at h ⊢
          refine e_la_howManyParts (lbits_64 hw) zLaw_1 hI.l hI.lo.1 ?_
          (first | refine g_lt_parts_0 ?_ | refine g_lt_parts_5 ?_ | refine g_lt_parts_24 ?_ | refine g_lt_parts_33 (by assumption) ?_ | refine g_lt_parts_36 ?_ | refine g_lt_parts_50 ?_ | refine g_lt_parts_62 ?_)
          (first | refine g_lt_parts_0 ?_ | refine g_lt_parts_5 ?_ | refine g_lt_parts_24 ?_ | refine g_lt_parts_33 (by assumption) ?_ | refine g_lt_parts_36 ?_ | refine g_lt_parts_50 ?_ | refine g_lt_parts_62 ?_)
          exact h M L hI aM.r0
        · rw [if_neg g4] at h ⊢
          refine e_la_partOf (by omega) (lbits_64 hw) zLaw_1 hI.l hI.lo.1 ?_
          (first | refine g_lt_parts_0 ?_ | refine g_lt_parts_5 ?_ | refine g_lt_parts_24 ?_ | refine g_lt_parts_33 (by assumption) ?_ | refine g_lt_parts_36 ?_ | refine g_lt_parts_50 ?_ | refine g_lt_parts_62 ?_)
          exact h M L hI aM.r0
      · rw [if_neg (by omega)] at h
        rw [if_neg g3]
        (refine e_lt_no (k := 1) hI (by omega) (fun M1 I f => ?_); (first | refine g_lt_parts_0 ?_ | refine g_lt_parts_5 ?_ | refine g_lt_parts_24 ?_ | refine g_lt_parts_33 (by assumption) ?_ | refine g_lt_parts_36 ?_ | refine g_lt_parts_50 ?_ | refine g_lt_parts_62 ?_); exact h M1 L I f)
  · rw [if_neg (fun q => g q.1)] at h
    rw [if_neg g, if_neg (by decide)]
    (refine e_lt_no (k := 1) hI (by omega) (fun M1 I f => ?_); (first | refine g_lt_parts_0 ?_ | refine g_lt_parts_5 ?_ | refine g_lt_parts_24 ?_ | refine g_lt_parts_33 (by assumption) ?_ | refine g_lt_parts_36 ?_ | refine g_lt_parts_50 ?_ | refine g_lt_parts_62 ?_); exact h M1 L I f)
theorem c_lt_free (hI : iC M P R ws tx hs kp ls rf) (h : ∀ M1 L1, jC M1 (opFree P R ws tx hs kp ls rf).1 → aM M M1 → Q (opFree P R ws tx hs kp ls rf).2 (SH, M1, L1)) : zEv (d + 9) m_lt_free [zR 0] (SH, M, L) Q := by
  refine b_lt_free ?_
  (first | refine g_lt_free_0 ?_ | refine g_lt_free_7 ?_)
  refine e_la_howManyFree zLaw_1 hI.l hI.lo.1 ?_
  (first | refine g_lt_free_0 ?_ | refine g_lt_free_7 ?_)
  exact h M L hI aM.r0
theorem lots_len {P : Nat → Nat} : ∀ (n : Nat) (s : List Int × Int × Nat), isW s.1 → 2 ≤ s.1.length → s.1.length ≤ 28 → (lots P n s).1.length = s.1.length ∧ isW (lots P n s).1
  | 0, s, hw, _, _ => ⟨rfl, hw⟩
  | n + 1, s, hw, h2, h28 => by
    have hok := lotS_ok (P := P) hw h2 h28
    have := lots_len (P := P) n (lotS P s) hok.1 (by omega) (by omega)
    exact ⟨by show (lots P n (lotS P s)).1.length = _; omega, this.2⟩
theorem c_lt_lots {w n z x : Int} (hI : iC M P R ws tx hs kp ls rf) (h : ∀ M1 L1, jC M1 (opLots P R ws tx hs kp ls rf w n z x).1 → aM M M1 → Q (opLots P R ws tx hs kp ls rf w n z x).2 (SH, M1, L1)) : zEv (d + 9) m_lt_lots [zR 0, zI w, zI n, zI z, zI x] (SH, M, L) Q := by
  unfold opLots at h
  have z108 := zRow_108
  refine b_lt_lots ?_
  (first | refine g_lt_lots_0 ?_ | refine g_lt_lots_5 ?_ | refine g_lt_lots_13 ?_ | refine g_lt_lots_25 ?_ | refine g_lt_lots_38 ?_ | refine g_lt_lots_44 ?_ | refine g_lt_lots_53 ?_ | refine g_lt_lots_62 (by assumption) ?_ | refine g_lt_lots_69 (by assumption) ?_ | refine g_lt_lots_79 (by assumption) ?_ | refine g_lt_lots_89 (by assumption) ?_ | refine g_lt_lots_102 (by assumption) ?_ | refine g_lt_lots_123 (by assumption) ?_)
  refine e_lt_noWord hI.s ?_
  (first | refine g_lt_lots_0 ?_ | refine g_lt_lots_5 ?_ | refine g_lt_lots_13 ?_ | refine g_lt_lots_25 ?_ | refine g_lt_lots_38 ?_ | refine g_lt_lots_44 ?_ | refine g_lt_lots_53 ?_ | refine g_lt_lots_62 (by assumption) ?_ | refine g_lt_lots_69 (by assumption) ?_ | refine g_lt_lots_79 (by assumption) ?_ | refine g_lt_lots_89 (by assumption) ?_ | refine g_lt_lots_102 (by assumption) ?_ | refine g_lt_lots_123 (by assumption) ?_)
  by_cases g : wd ws w
  · obtain ⟨za, ru, hw, h14, h64⟩ := hI.w g
    rw [if_pos g] at h ⊢
    rw [if_pos rfl]
    by_cases g2 : n < 1
    · rw [if_pos g2] at h ⊢
      (refine e_lt_no (k := 4) hI (by omega) (fun M1 I f => ?_); (first | refine g_lt_lots_0 ?_ | refine g_lt_lots_5 ?_ | refine g_lt_lots_13 ?_ | refine g_lt_lots_25 ?_ | refine g_lt_lots_38 ?_ | refine g_lt_lots_44 ?_ | refine g_lt_lots_53 ?_ | refine g_lt_lots_62 (by assumption) ?_ | refine g_lt_lots_69 (by assumption) ?_ | refine g_lt_lots_79 (by assumption) ?_ | refine g_lt_lots_89 (by assumption) ?_ | refine g_lt_lots_102 (by assumption) ?_ | refine g_lt_lots_123 (by assumption) ?_); exact h M1 L I f)
    · rw [if_neg g2] at h ⊢
      by_cases g3 : 60 < n
      · rw [if_pos g3] at h ⊢
        (refine e_lt_no (k := 6) hI (by omega) (fun M1 I f => ?_); (first | refine g_lt_lots_0 ?_ | refine g_lt_lots_5 ?_ | refine g_lt_lots_13 ?_ | refine g_lt_lots_25 ?_ | refine g_lt_lots_38 ?_ | refine g_lt_lots_44 ?_ | refine g_lt_lots_53 ?_ | refine g_lt_lots_62 (by assumption) ?_ | refine g_lt_lots_69 (by assumption) ?_ | refine g_lt_lots_79 (by assumption) ?_ | refine g_lt_lots_89 (by assumption) ?_ | refine g_lt_lots_102 (by assumption) ?_ | refine g_lt_lots_123 (by assumption) ?_); exact h M1 L I f)
      · rw [if_neg g3] at h ⊢
        refine e_lt_noSuch ?_
        (first | refine g_lt_lots_0 ?_ | refine g_lt_lots_5 ?_ | refine g_lt_lots_13 ?_ | refine g_lt_lots_25 ?_ | refine g_lt_lots_38 ?_ | refine g_lt_lots_44 ?_ | refine g_lt_lots_53 ?_ | refine g_lt_lots_62 (by assumption) ?_ | refine g_lt_lots_69 (by assumption) ?_ | refine g_lt_lots_79 (by assumption) ?_ | refine g_lt_lots_89 (by assumption) ?_ | refine g_lt_lots_102 (by assumption) ?_ | refine g_lt_lots_123 (by assumption) ?_)
        by_cases g4 : x = 0 ∨ x = 1
        · rw [if_pos g4] at h ⊢
          rw [if_pos rfl]
          refine e_sh_rowI hI g ?_
          rw [Int.toNat_natCast]
          (first | refine g_lt_lots_0 ?_ | refine g_lt_lots_5 ?_ | refine g_lt_lots_13 ?_ | refine g_lt_lots_25 ?_ | refine g_lt_lots_38 ?_ | refine g_lt_lots_44 ?_ | refine g_lt_lots_53 ?_ | refine g_lt_lots_62 (by assumption) ?_ | refine g_lt_lots_69 (by assumption) ?_ | refine g_lt_lots_79 (by assumption) ?_ | refine g_lt_lots_89 (by assumption) ?_ | refine g_lt_lots_102 (by assumption) ?_ | refine g_lt_lots_123 (by assumption) ?_)
          refine e_ro_size za ru ?_
          (first | refine g_lt_lots_0 ?_ | refine g_lt_lots_5 ?_ | refine g_lt_lots_13 ?_ | refine g_lt_lots_25 ?_ | refine g_lt_lots_38 ?_ | refine g_lt_lots_44 ?_ | refine g_lt_lots_53 ?_ | refine g_lt_lots_62 (by assumption) ?_ | refine g_lt_lots_69 (by assumption) ?_ | refine g_lt_lots_79 (by assumption) ?_ | refine g_lt_lots_89 (by assumption) ?_ | refine g_lt_lots_102 (by assumption) ?_ | refine g_lt_lots_123 (by assumption) ?_)
          by_cases g5 : (gw ws w).length < 2
          · rw [if_pos g5] at h
            rw [if_pos (by omega)]
            (refine e_lt_no (k := 3) hI (by omega) (fun M1 I f => ?_); (first | refine g_lt_lots_0 ?_ | refine g_lt_lots_5 ?_ | refine g_lt_lots_13 ?_ | refine g_lt_lots_25 ?_ | refine g_lt_lots_38 ?_ | refine g_lt_lots_44 ?_ | refine g_lt_lots_53 ?_ | refine g_lt_lots_62 (by assumption) ?_ | refine g_lt_lots_69 (by assumption) ?_ | refine g_lt_lots_79 (by assumption) ?_ | refine g_lt_lots_89 (by assumption) ?_ | refine g_lt_lots_102 (by assumption) ?_ | refine g_lt_lots_123 (by assumption) ?_); exact h M1 L I f)
          · rw [if_neg g5] at h
            rw [if_neg (by omega)]
            refine e_ro_copy z108 za (by omega) ru (by rw [zc108]; omega) (fun M1 g1 f1 => ?_)
            have J1 := hI.E (f1.c (by decide) (by decide))
            (first | refine g_lt_lots_0 ?_ | refine g_lt_lots_5 ?_ | refine g_lt_lots_13 ?_ | refine g_lt_lots_25 ?_ | refine g_lt_lots_38 ?_ | refine g_lt_lots_44 ?_ | refine g_lt_lots_53 ?_ | refine g_lt_lots_62 (by assumption) ?_ | refine g_lt_lots_69 (by assumption) ?_ | refine g_lt_lots_79 (by assumption) ?_ | refine g_lt_lots_89 (by assumption) ?_ | refine g_lt_lots_102 (by assumption) ?_ | refine g_lt_lots_123 (by assumption) ?_)
            refine e_la_drawLots zLaw_1 z108 J1.1.l hI.lo (by omega) g1 hw (by omega) (by omega) (fun M2 g6 f2 => ?_)
            have J2 := J1.1.E (f2.c (by decide) (by decide))
            obtain ⟨_, ru, _⟩ := J2.1.w g
            (first | refine g_lt_lots_0 ?_ | refine g_lt_lots_5 ?_ | refine g_lt_lots_13 ?_ | refine g_lt_lots_25 ?_ | refine g_lt_lots_38 ?_ | refine g_lt_lots_44 ?_ | refine g_lt_lots_53 ?_ | refine g_lt_lots_62 (by assumption) ?_ | refine g_lt_lots_69 (by assumption) ?_ | refine g_lt_lots_79 (by assumption) ?_ | refine g_lt_lots_89 (by assumption) ?_ | refine g_lt_lots_102 (by assumption) ?_ | refine g_lt_lots_123 (by assumption) ?_)
            by_cases g7 : x = 0
            · rw [if_pos g7] at h ⊢
              (first | refine g_lt_lots_0 ?_ | refine g_lt_lots_5 ?_ | refine g_lt_lots_13 ?_ | refine g_lt_lots_25 ?_ | refine g_lt_lots_38 ?_ | refine g_lt_lots_44 ?_ | refine g_lt_lots_53 ?_ | refine g_lt_lots_62 (by assumption) ?_ | refine g_lt_lots_69 (by assumption) ?_ | refine g_lt_lots_79 (by assumption) ?_ | refine g_lt_lots_89 (by assumption) ?_ | refine g_lt_lots_102 (by assumption) ?_ | refine g_lt_lots_123 (by assumption) ?_)
              exact h M2 L J2.1 (J1.2.tr J2.2)
            · rw [if_neg g7] at h ⊢
              refine e_ro_howManyOther z108 za g6 ru (lots_len n.toNat (gw ws w, z, 0) hw (by dsimp only; omega) (by dsimp only; omega)).1 ?_
              (first | refine g_lt_lots_0 ?_ | refine g_lt_lots_5 ?_ | refine g_lt_lots_13 ?_ | refine g_lt_lots_25 ?_ | refine g_lt_lots_38 ?_ | refine g_lt_lots_44 ?_ | refine g_lt_lots_53 ?_ | refine g_lt_lots_62 (by assumption) ?_ | refine g_lt_lots_69 (by assumption) ?_ | refine g_lt_lots_79 (by assumption) ?_ | refine g_lt_lots_89 (by assumption) ?_ | refine g_lt_lots_102 (by assumption) ?_ | refine g_lt_lots_123 (by assumption) ?_)
              exact h M2 L J2.1 (J1.2.tr J2.2)
        · rw [if_neg g4] at h ⊢
          rw [if_neg (by decide)]
          (refine e_lt_no (k := 2) hI (by omega) (fun M1 I f => ?_); (first | refine g_lt_lots_0 ?_ | refine g_lt_lots_5 ?_ | refine g_lt_lots_13 ?_ | refine g_lt_lots_25 ?_ | refine g_lt_lots_38 ?_ | refine g_lt_lots_44 ?_ | refine g_lt_lots_53 ?_ | refine g_lt_lots_62 (by assumption) ?_ | refine g_lt_lots_69 (by assumption) ?_ | refine g_lt_lots_79 (by assumption) ?_ | refine g_lt_lots_89 (by assumption) ?_ | refine g_lt_lots_102 (by assumption) ?_ | refine g_lt_lots_123 (by assumption) ?_); exact h M1 L I f)
  · rw [if_neg g] at h ⊢
    rw [if_neg (by decide)]
    (refine e_lt_no (k := 1) hI (by omega) (fun M1 I f => ?_); (first | refine g_lt_lots_0 ?_ | refine g_lt_lots_5 ?_ | refine g_lt_lots_13 ?_ | refine g_lt_lots_25 ?_ | refine g_lt_lots_38 ?_ | refine g_lt_lots_44 ?_ | refine g_lt_lots_53 ?_ | refine g_lt_lots_62 (by assumption) ?_ | refine g_lt_lots_69 (by assumption) ?_ | refine g_lt_lots_79 (by assumption) ?_ | refine g_lt_lots_89 (by assumption) ?_ | refine g_lt_lots_102 (by assumption) ?_ | refine g_lt_lots_123 (by assumption) ?_); exact h M1 L I f)
/-! lists -/
theorem iC.gl {l : Int} {xs : List Int} (hI : iC M P R ws tx hs kp ls rf) (g : lt3 l) (q : ls l.toNat = some xs) : zRow (75 + 2 * l.toNat) ∧ rIs M (75 + 2 * l.toNat) xs ∧ xs.length ≤ 40 := by
  obtain ⟨z1, z2, z3⟩ := zNum (show l.toNat < 3 by omega)
  have h1 := hI.n l.toNat (by omega)
  rw [q] at h1
  have := h1.2.2.2
  rw [show 75 + 2 * l.toNat + 1 = 76 + 2 * l.toNat by omega, z3] at this
  exact ⟨z1, h1.2, by omega⟩
theorem nC.set {l : Nat} {xs ys : List Int} (hn : nC M ls) (hl : l < 3) (q : ls l = some xs) (hf : rFr M M' (75 + 2 * l)) (hy : rIs M' (75 + 2 * l) ys) : nC M' (lsSet ls l ys) := by
  intro k hk
  unfold lsSet
  by_cases e : k = l
  · rw [if_pos e]
    subst e
    have := hn k hk
    rw [q] at this
    exact ⟨by rw [hf 72 (by omega) (by omega)]; exact this.1, hy⟩
  · rw [if_neg e]
    have := hn k hk
    cases q2 : ls k with
    | none =>
      rw [q2] at this
      show M' 72 k = 0
      rw [hf 72 (by omega) (by omega)]; exact this
    | some zs =>
      rw [q2] at this
      exact ⟨by rw [hf 72 (by omega) (by omega)]; exact this.1, hf.is this.2 (by omega) (by omega) (by omega)⟩
theorem c_lt_list {l n : Int} (hI : iC M P R ws tx hs kp ls rf) (h : ∀ M1 L1, jC M1 (opList P R ws tx hs kp ls rf l n).1 → aM M M1 → Q (opList P R ws tx hs kp ls rf l n).2 (SH, M1, L1)) : zEv (d + 9) m_lt_list [zR 0, zI l, zI n] (SH, M, L) Q := by
  unfold opList at h
  refine b_lt_list ?_
  (first | refine g_lt_list_0 ?_ | refine g_lt_list_4 ?_ | refine g_lt_list_12 ?_ | refine g_lt_list_25 ?_ | refine g_lt_list_42 ?_)
  refine e_lt_noList ?_
  (first | refine g_lt_list_0 ?_ | refine g_lt_list_4 ?_ | refine g_lt_list_12 ?_ | refine g_lt_list_25 ?_ | refine g_lt_list_42 ?_)
  by_cases g : lt3 l
  · rw [if_pos g] at h ⊢
    rw [if_pos rfl]
    by_cases g2 : 40 < n
    · rw [if_pos g2] at h ⊢
      (refine e_lt_no (k := 6) hI (by omega) (fun M1 I f => ?_); (first | refine g_lt_list_0 ?_ | refine g_lt_list_4 ?_ | refine g_lt_list_12 ?_ | refine g_lt_list_25 ?_ | refine g_lt_list_42 ?_); exact h M1 L I f)
    · rw [if_neg g2] at h ⊢
      by_cases g3 : n < 0
      · rw [if_pos g3] at h ⊢
        exact h M L hI aM.r0
      · rw [if_neg g3] at h ⊢
        refine e_nu_begin hI.n g (by omega) (fun M1 g1 f1 => ?_)
        (first | refine g_lt_list_0 ?_ | refine g_lt_list_4 ?_ | refine g_lt_list_12 ?_ | refine g_lt_list_25 ?_ | refine g_lt_list_42 ?_)
        exact h M1 L (hI.nx f1 (by decide) g1) (f1.aM (by decide))
  · rw [if_neg g] at h ⊢
    rw [if_neg (by decide)]
    (refine e_lt_no (k := 1) hI (by omega) (fun M1 I f => ?_); (first | refine g_lt_list_0 ?_ | refine g_lt_list_4 ?_ | refine g_lt_list_12 ?_ | refine g_lt_list_25 ?_ | refine g_lt_list_42 ?_); exact h M1 L I f)
theorem lsFr {l : Nat} (hl : l < 3) (hf : rFr M M' (75 + 2 * l)) : cFr [72, 75, 76, 77, 78, 79, 80] M M' := fun k hk => by
  simp at hk
  exact hf k (by omega) (by omega)
theorem rhas1 {n : Nat} {i : Int} : rhas n i 1 = decide (0 ≤ i ∧ i < n) := by unfold rhas; exact decide_eq_decide.mpr (by omega)
theorem zr32_1 : zr32 1 := ⟨by decide, by decide⟩
theorem c_lt_put {l i v : Int} (hi : zr32 i) (hI : iC M P R ws tx hs kp ls rf) (h : ∀ M1 L1, jC M1 (opPut P R ws tx hs kp ls rf l i v).1 → aM M M1 → Q (opPut P R ws tx hs kp ls rf l i v).2 (SH, M1, L1)) : zEv (d + 9) m_lt_put [zR 0, zI l, zI i, zI v] (SH, M, L) Q := by
  unfold opPut at h
  refine b_lt_put ?_
  (first | refine g_lt_put_0 ?_ | refine g_lt_put_4 ?_ | refine g_lt_put_12 ?_ | refine g_lt_put_21 ?_ | refine g_lt_put_35 (by assumption) ?_ | refine g_lt_put_44 (by assumption) ?_ | refine g_lt_put_57 (by assumption) ?_)
  refine e_lt_noList ?_
  (first | refine g_lt_put_0 ?_ | refine g_lt_put_4 ?_ | refine g_lt_put_12 ?_ | refine g_lt_put_21 ?_ | refine g_lt_put_35 (by assumption) ?_ | refine g_lt_put_44 (by assumption) ?_ | refine g_lt_put_57 (by assumption) ?_)
  by_cases g : lt3 l
  · rw [if_pos g] at h ⊢
    rw [if_pos rfl]
    refine e_nu_lacks hI.n g ?_
    (first | refine g_lt_put_0 ?_ | refine g_lt_put_4 ?_ | refine g_lt_put_12 ?_ | refine g_lt_put_21 ?_ | refine g_lt_put_35 (by assumption) ?_ | refine g_lt_put_44 (by assumption) ?_ | refine g_lt_put_57 (by assumption) ?_)
    cases q : ls l.toNat with
    | none =>
      rw [q] at h
      exact zif_f (by simp) (h M L hI aM.r0)
    | some xs =>
      obtain ⟨zr, rx, x40⟩ := hI.gl g q
      rw [q] at h
      refine zif_t (by simp) (e_nu_row g ?_)
      rw [Int.toNat_natCast]
      (first | refine g_lt_put_0 ?_ | refine g_lt_put_4 ?_ | refine g_lt_put_12 ?_ | refine g_lt_put_21 ?_ | refine g_lt_put_35 (by assumption) ?_ | refine g_lt_put_44 (by assumption) ?_ | refine g_lt_put_57 (by assumption) ?_)
      refine e_ro_has zr rx hi zr32_1 ?_
      (first | refine g_lt_put_0 ?_ | refine g_lt_put_4 ?_ | refine g_lt_put_12 ?_ | refine g_lt_put_21 ?_ | refine g_lt_put_35 (by assumption) ?_ | refine g_lt_put_44 (by assumption) ?_ | refine g_lt_put_57 (by assumption) ?_)
      rw [rhas1]
      by_cases g2 : 0 ≤ i ∧ i < xs.length
      · simp only [if_pos g2] at h
        rw [decide_eq_true g2]
        refine zif_f (by simp) (e_ro_set zr rx (fun M1 g1 f1 => ?_))
        (first | refine g_lt_put_0 ?_ | refine g_lt_put_4 ?_ | refine g_lt_put_12 ?_ | refine g_lt_put_21 ?_ | refine g_lt_put_35 (by assumption) ?_ | refine g_lt_put_44 (by assumption) ?_ | refine g_lt_put_57 (by assumption) ?_)
        rw [rset_in g2] at g1
        exact h M1 L (hI.nx (lsFr (by omega) f1) (by decide) (hI.n.set (by omega) q f1 g1)) ((lsFr (by omega) f1).aM (by decide))
      · simp only [if_neg g2] at h
        rw [decide_eq_false g2]
        exact zif_t (by simp) (h M L hI aM.r0)
  · rw [if_neg g] at h ⊢
    rw [if_neg (by decide)]
    (refine e_lt_no (k := 1) hI (by omega) (fun M1 I f => ?_); (first | refine g_lt_put_0 ?_ | refine g_lt_put_4 ?_ | refine g_lt_put_12 ?_ | refine g_lt_put_21 ?_ | refine g_lt_put_35 (by assumption) ?_ | refine g_lt_put_44 (by assumption) ?_ | refine g_lt_put_57 (by assumption) ?_); exact h M1 L I f)
theorem c_lt_look {l i : Int} (hi : zr32 i) (hI : iC M P R ws tx hs kp ls rf) (h : ∀ M1 L1, jC M1 (opLook P R ws tx hs kp ls rf l i).1 → aM M M1 → Q (opLook P R ws tx hs kp ls rf l i).2 (SH, M1, L1)) : zEv (d + 9) m_lt_look [zR 0, zI l, zI i] (SH, M, L) Q := by
  unfold opLook at h
  refine b_lt_look ?_
  (first | refine g_lt_look_0 ?_ | refine g_lt_look_4 ?_ | refine g_lt_look_12 ?_ | refine g_lt_look_21 ?_ | refine g_lt_look_36 (by assumption) ?_ | refine g_lt_look_43 (by assumption) ?_ | refine g_lt_look_55 (by assumption) ?_)
  refine e_lt_noList ?_
  (first | refine g_lt_look_0 ?_ | refine g_lt_look_4 ?_ | refine g_lt_look_12 ?_ | refine g_lt_look_21 ?_ | refine g_lt_look_36 (by assumption) ?_ | refine g_lt_look_43 (by assumption) ?_ | refine g_lt_look_55 (by assumption) ?_)
  by_cases g : lt3 l
  · rw [if_pos g] at h ⊢
    rw [if_pos rfl]
    refine e_nu_lacks hI.n g ?_
    (first | refine g_lt_look_0 ?_ | refine g_lt_look_4 ?_ | refine g_lt_look_12 ?_ | refine g_lt_look_21 ?_ | refine g_lt_look_36 (by assumption) ?_ | refine g_lt_look_43 (by assumption) ?_ | refine g_lt_look_55 (by assumption) ?_)
    cases q : ls l.toNat with
    | none =>
      rw [q] at h
      exact zif_f (by simp) (h M L hI aM.r0)
    | some xs =>
      obtain ⟨zr, rx, x40⟩ := hI.gl g q
      rw [q] at h
      refine zif_t (by simp) (e_nu_row g ?_)
      rw [Int.toNat_natCast]
      (first | refine g_lt_look_0 ?_ | refine g_lt_look_4 ?_ | refine g_lt_look_12 ?_ | refine g_lt_look_21 ?_ | refine g_lt_look_36 (by assumption) ?_ | refine g_lt_look_43 (by assumption) ?_ | refine g_lt_look_55 (by assumption) ?_)
      refine e_ro_has zr rx hi zr32_1 ?_
      (first | refine g_lt_look_0 ?_ | refine g_lt_look_4 ?_ | refine g_lt_look_12 ?_ | refine g_lt_look_21 ?_ | refine g_lt_look_36 (by assumption) ?_ | refine g_lt_look_43 (by assumption) ?_ | refine g_lt_look_55 (by assumption) ?_)
      rw [rhas1]
      by_cases g2 : 0 ≤ i ∧ i < xs.length
      · simp only [if_pos g2] at h
        rw [decide_eq_true g2]
        refine zif_f (by simp) (e_ro_get zr rx ?_)
        (first | refine g_lt_look_0 ?_ | refine g_lt_look_4 ?_ | refine g_lt_look_12 ?_ | refine g_lt_look_21 ?_ | refine g_lt_look_36 (by assumption) ?_ | refine g_lt_look_43 (by assumption) ?_ | refine g_lt_look_55 (by assumption) ?_)
        rw [rget_in g2]
        exact h M L hI aM.r0
      · simp only [if_neg g2] at h
        rw [decide_eq_false g2]
        exact zif_t (by simp) (h M L hI aM.r0)
  · rw [if_neg g] at h ⊢
    rw [if_neg (by decide)]
    refine e_lt_noFar (k := 1) hI (by omega) (fun M1 I f => ?_)
    (first | refine g_lt_look_0 ?_ | refine g_lt_look_4 ?_ | refine g_lt_look_12 ?_ | refine g_lt_look_21 ?_ | refine g_lt_look_36 (by assumption) ?_ | refine g_lt_look_43 (by assumption) ?_ | refine g_lt_look_55 (by assumption) ?_)
    exact h M1 L I f
theorem c_lt_from {l i n : Int} (hi : zr32 i) (hI : iC M P R ws tx hs kp ls rf) (h : ∀ M1 L1, jC M1 (opFrom P R ws tx hs kp ls rf l i n).1 → aM M M1 → Q (opFrom P R ws tx hs kp ls rf l i n).2 (SH, M1, L1)) : zEv (d + 9) m_lt_from [zR 0, zI l, zI i, zI n] (SH, M, L) Q := by
  unfold opFrom at h
  have z108 := zRow_108
  have h5 := hI.w5
  refine b_lt_from ?_
  (first | refine g_lt_from_0 ?_ | refine g_lt_from_4 ?_ | refine g_lt_from_12 ?_ | refine g_lt_from_23 ?_ | refine g_lt_from_37 ?_ | refine g_lt_from_46 ?_ | refine g_lt_from_55 ?_ | refine g_lt_from_69 (by assumption) ?_ | refine g_lt_from_78 (by assumption) ?_ | refine g_lt_from_91 (by assumption) ?_ | refine g_lt_from_102 (by assumption) ?_ | refine g_lt_from_109 (by assumption) ?_ | refine g_lt_from_118 (by assumption) ?_ | refine g_lt_from_130 (by assumption) ?_)
  refine e_lt_noList ?_
  (first | refine g_lt_from_0 ?_ | refine g_lt_from_4 ?_ | refine g_lt_from_12 ?_ | refine g_lt_from_23 ?_ | refine g_lt_from_37 ?_ | refine g_lt_from_46 ?_ | refine g_lt_from_55 ?_ | refine g_lt_from_69 (by assumption) ?_ | refine g_lt_from_78 (by assumption) ?_ | refine g_lt_from_91 (by assumption) ?_ | refine g_lt_from_102 (by assumption) ?_ | refine g_lt_from_109 (by assumption) ?_ | refine g_lt_from_118 (by assumption) ?_ | refine g_lt_from_130 (by assumption) ?_)
  by_cases g : lt3 l
  · rw [if_pos g] at h ⊢
    rw [if_pos rfl]
    by_cases g2 : n < 0
    · rw [if_pos g2] at h ⊢
      (refine e_lt_no (k := 4) hI (by omega) (fun M1 I f => ?_); (first | refine g_lt_from_0 ?_ | refine g_lt_from_4 ?_ | refine g_lt_from_12 ?_ | refine g_lt_from_23 ?_ | refine g_lt_from_37 ?_ | refine g_lt_from_46 ?_ | refine g_lt_from_55 ?_ | refine g_lt_from_69 (by assumption) ?_ | refine g_lt_from_78 (by assumption) ?_ | refine g_lt_from_91 (by assumption) ?_ | refine g_lt_from_102 (by assumption) ?_ | refine g_lt_from_109 (by assumption) ?_ | refine g_lt_from_118 (by assumption) ?_ | refine g_lt_from_130 (by assumption) ?_); exact h M1 L I f)
    · rw [if_neg g2] at h ⊢
      by_cases g3 : 14 < n
      · rw [if_pos (Or.inl g3)] at h
        rw [if_pos g3]
        (refine e_lt_no (k := 6) hI (by omega) (fun M1 I f => ?_); (first | refine g_lt_from_0 ?_ | refine g_lt_from_4 ?_ | refine g_lt_from_12 ?_ | refine g_lt_from_23 ?_ | refine g_lt_from_37 ?_ | refine g_lt_from_46 ?_ | refine g_lt_from_55 ?_ | refine g_lt_from_69 (by assumption) ?_ | refine g_lt_from_78 (by assumption) ?_ | refine g_lt_from_91 (by assumption) ?_ | refine g_lt_from_102 (by assumption) ?_ | refine g_lt_from_109 (by assumption) ?_ | refine g_lt_from_118 (by assumption) ?_ | refine g_lt_from_130 (by assumption) ?_); exact h M1 L I f)
      · rw [if_neg g3]
        refine e_sh_isFull zShf_7 hI.s ?_
        (first | refine g_lt_from_0 ?_ | refine g_lt_from_4 ?_ | refine g_lt_from_12 ?_ | refine g_lt_from_23 ?_ | refine g_lt_from_37 ?_ | refine g_lt_from_46 ?_ | refine g_lt_from_55 ?_ | refine g_lt_from_69 (by assumption) ?_ | refine g_lt_from_78 (by assumption) ?_ | refine g_lt_from_91 (by assumption) ?_ | refine g_lt_from_102 (by assumption) ?_ | refine g_lt_from_109 (by assumption) ?_ | refine g_lt_from_118 (by assumption) ?_ | refine g_lt_from_130 (by assumption) ?_)
        by_cases g4 : ws.length < 5
        · rw [if_neg (by omega)] at h
          rw [if_pos g4, if_pos rfl]
          refine e_nu_lacks hI.n g ?_
          (first | refine g_lt_from_0 ?_ | refine g_lt_from_4 ?_ | refine g_lt_from_12 ?_ | refine g_lt_from_23 ?_ | refine g_lt_from_37 ?_ | refine g_lt_from_46 ?_ | refine g_lt_from_55 ?_ | refine g_lt_from_69 (by assumption) ?_ | refine g_lt_from_78 (by assumption) ?_ | refine g_lt_from_91 (by assumption) ?_ | refine g_lt_from_102 (by assumption) ?_ | refine g_lt_from_109 (by assumption) ?_ | refine g_lt_from_118 (by assumption) ?_ | refine g_lt_from_130 (by assumption) ?_)
          cases q : ls l.toNat with
          | none =>
            rw [q] at h
            exact zif_f (by simp) (h M L hI aM.r0)
          | some xs =>
            obtain ⟨zr, rx, x40⟩ := hI.gl g q
            have hn : zr32 n := by unfold zr32; omega
            rw [q] at h
            refine zif_t (by simp) (e_nu_row g ?_)
            rw [Int.toNat_natCast]
            (first | refine g_lt_from_0 ?_ | refine g_lt_from_4 ?_ | refine g_lt_from_12 ?_ | refine g_lt_from_23 ?_ | refine g_lt_from_37 ?_ | refine g_lt_from_46 ?_ | refine g_lt_from_55 ?_ | refine g_lt_from_69 (by assumption) ?_ | refine g_lt_from_78 (by assumption) ?_ | refine g_lt_from_91 (by assumption) ?_ | refine g_lt_from_102 (by assumption) ?_ | refine g_lt_from_109 (by assumption) ?_ | refine g_lt_from_118 (by assumption) ?_ | refine g_lt_from_130 (by assumption) ?_)
            refine e_ro_has zr rx hi hn ?_
            (first | refine g_lt_from_0 ?_ | refine g_lt_from_4 ?_ | refine g_lt_from_12 ?_ | refine g_lt_from_23 ?_ | refine g_lt_from_37 ?_ | refine g_lt_from_46 ?_ | refine g_lt_from_55 ?_ | refine g_lt_from_69 (by assumption) ?_ | refine g_lt_from_78 (by assumption) ?_ | refine g_lt_from_91 (by assumption) ?_ | refine g_lt_from_102 (by assumption) ?_ | refine g_lt_from_109 (by assumption) ?_ | refine g_lt_from_118 (by assumption) ?_ | refine g_lt_from_130 (by assumption) ?_)
            cases g6 : rhas xs.length i n with
            | false =>
              simp only [g6] at h
              exact zif_t (by simp) (h M L hI aM.r0)
            | true =>
              simp only [g6] at h
              refine zif_f (by simp) (e_ro_clear z108 (fun M1 g1 f1 => ?_))
              have J1 := hI.D (f1.c (by decide) (by decide))
              obtain ⟨_, rx, _⟩ := J1.1.gl g q
              (first | refine g_lt_from_0 ?_ | refine g_lt_from_4 ?_ | refine g_lt_from_12 ?_ | refine g_lt_from_23 ?_ | refine g_lt_from_37 ?_ | refine g_lt_from_46 ?_ | refine g_lt_from_55 ?_ | refine g_lt_from_69 (by assumption) ?_ | refine g_lt_from_78 (by assumption) ?_ | refine g_lt_from_91 (by assumption) ?_ | refine g_lt_from_102 (by assumption) ?_ | refine g_lt_from_109 (by assumption) ?_ | refine g_lt_from_118 (by assumption) ?_ | refine g_lt_from_130 (by assumption) ?_)
              refine e_ro_appendPiece z108 zr g1 rx hi hn (fun M2 g7 f2 => ?_)
              have J2 := J1.1.D (f2.c (by decide) (by decide))
              rw [g6, if_pos rfl, List.nil_append, zc108, List.length_nil, show (min n ((28 : Int) - ((0 : Nat) : Int))) = n by omega] at g7
              (first | refine g_lt_from_0 ?_ | refine g_lt_from_4 ?_ | refine g_lt_from_12 ?_ | refine g_lt_from_23 ?_ | refine g_lt_from_37 ?_ | refine g_lt_from_46 ?_ | refine g_lt_from_55 ?_ | refine g_lt_from_69 (by assumption) ?_ | refine g_lt_from_78 (by assumption) ?_ | refine g_lt_from_91 (by assumption) ?_ | refine g_lt_from_102 (by assumption) ?_ | refine g_lt_from_109 (by assumption) ?_ | refine g_lt_from_118 (by assumption) ?_ | refine g_lt_from_130 (by assumption) ?_)
              refine e_ro_isWord z108 g7 ?_
              (first | refine g_lt_from_0 ?_ | refine g_lt_from_4 ?_ | refine g_lt_from_12 ?_ | refine g_lt_from_23 ?_ | refine g_lt_from_37 ?_ | refine g_lt_from_46 ?_ | refine g_lt_from_55 ?_ | refine g_lt_from_69 (by assumption) ?_ | refine g_lt_from_78 (by assumption) ?_ | refine g_lt_from_91 (by assumption) ?_ | refine g_lt_from_102 (by assumption) ?_ | refine g_lt_from_109 (by assumption) ?_ | refine g_lt_from_118 (by assumption) ?_ | refine g_lt_from_130 (by assumption) ?_)
              cases g8 : ((xs.drop i.toNat).take n.toNat).all (fun a => decide (0 ≤ a ∧ a < 6)) with
              | false =>
                simp only [g8] at h
                refine zif_t (by simp) ?_
                refine e_lt_no (k := 3) J2.1 (by omega) (fun M3 I f => ?_)
                (first | refine g_lt_from_0 ?_ | refine g_lt_from_4 ?_ | refine g_lt_from_12 ?_ | refine g_lt_from_23 ?_ | refine g_lt_from_37 ?_ | refine g_lt_from_46 ?_ | refine g_lt_from_55 ?_ | refine g_lt_from_69 (by assumption) ?_ | refine g_lt_from_78 (by assumption) ?_ | refine g_lt_from_91 (by assumption) ?_ | refine g_lt_from_102 (by assumption) ?_ | refine g_lt_from_109 (by assumption) ?_ | refine g_lt_from_118 (by assumption) ?_ | refine g_lt_from_130 (by assumption) ?_)
                exact h M3 L I ((J1.2.tr J2.2).tr f)
              | true =>
                simp only [g8] at h
                refine zif_f (by simp) ?_
                have hW : isW ((xs.drop i.toNat).take n.toNat) := fun a ha => of_decide_eq_true (List.all_eq_true.mp g8 a ha)
                refine e_sh_place zShf_7 z108 J2.1.s g4 g7 hW (by rw [List.length_take]; omega) (by decide) (fun M3 g9 f3 => ?_)
                (first | refine g_lt_from_0 ?_ | refine g_lt_from_4 ?_ | refine g_lt_from_12 ?_ | refine g_lt_from_23 ?_ | refine g_lt_from_37 ?_ | refine g_lt_from_46 ?_ | refine g_lt_from_55 ?_ | refine g_lt_from_69 (by assumption) ?_ | refine g_lt_from_78 (by assumption) ?_ | refine g_lt_from_91 (by assumption) ?_ | refine g_lt_from_102 (by assumption) ?_ | refine g_lt_from_109 (by assumption) ?_ | refine g_lt_from_118 (by assumption) ?_ | refine g_lt_from_130 (by assumption) ?_)
                exact h M3 L (J2.1.sx f3 (by decide) g9) ((J1.2.tr J2.2).tr (f3.aM (by decide)))
        · rw [if_pos (by omega)] at h
          rw [if_neg g4, if_neg (by decide)]
          (refine e_lt_no (k := 6) hI (by omega) (fun M1 I f => ?_); (first | refine g_lt_from_0 ?_ | refine g_lt_from_4 ?_ | refine g_lt_from_12 ?_ | refine g_lt_from_23 ?_ | refine g_lt_from_37 ?_ | refine g_lt_from_46 ?_ | refine g_lt_from_55 ?_ | refine g_lt_from_69 (by assumption) ?_ | refine g_lt_from_78 (by assumption) ?_ | refine g_lt_from_91 (by assumption) ?_ | refine g_lt_from_102 (by assumption) ?_ | refine g_lt_from_109 (by assumption) ?_ | refine g_lt_from_118 (by assumption) ?_ | refine g_lt_from_130 (by assumption) ?_); exact h M1 L I f)
  · rw [if_neg g] at h ⊢
    rw [if_neg (by decide)]
    (refine e_lt_no (k := 1) hI (by omega) (fun M1 I f => ?_); (first | refine g_lt_from_0 ?_ | refine g_lt_from_4 ?_ | refine g_lt_from_12 ?_ | refine g_lt_from_23 ?_ | refine g_lt_from_37 ?_ | refine g_lt_from_46 ?_ | refine g_lt_from_55 ?_ | refine g_lt_from_69 (by assumption) ?_ | refine g_lt_from_78 (by assumption) ?_ | refine g_lt_from_91 (by assumption) ?_ | refine g_lt_from_102 (by assumption) ?_ | refine g_lt_from_109 (by assumption) ?_ | refine g_lt_from_118 (by assumption) ?_ | refine g_lt_from_130 (by assumption) ?_); exact h M1 L I f)
end PD
