/-! what the constructors make: the Parser -/
section MP
variable {d : Nat} {M L : zM} {Q : Int → zW → Prop} {σ : zSh}
theorem zsz_ap {τ : zSh} : ∀ {σ : zSh}, zsz (σ ++ τ) = zsz σ + zsz τ
  | [] => by simp [zsz]
  | e :: σ => by
    show zsz1 e + zsz (σ ++ τ) = zsz1 e + zsz σ + zsz τ
    rw [zsz_ap]; omega
set_option maxRecDepth 20000 in
theorem n_pa_init (h : ∀ M' L' : zM, (∀ k, k < σ.length → M' k = M k ∧ L' k = L k) → Q 0 (σ ++ [(4, 0, [some (σ.length + 1), some (σ.length + 3), none, none]), (5, 0, [some (σ.length + 2), none]), (20, 15, []), (20, 5, [])], M', L')) : zEv (d + 2) m_pa_init [zR σ.length] (σ ++ [(4, 0, [none, none, none, none])], M, L) Q := by
  have e1 : (σ ++ [((4 : Nat), (0 : Nat), [(none : Option Nat), none, none, none])]).length = σ.length + 1 := by rw [List.length_append]; rfl
  refine zEv_of [zR σ.length] (by decide) rfl (Nat.le_of_ble_eq_true rfl) (zEx_run [] 2 (by decide) ?_)
  refine zck_i ?_ (zck_i ?_ ?_)
  · show (σ ++ [(4, 0, [none, none, none, none])]).length + 1 ≤ (σ ++ [(4, 0, [none, none, none, none])]).length + 3 ∧ zsz (σ ++ [(4, 0, [none, none, none, none])]) + 2 ≤ zsz (σ ++ [(4, 0, [none, none, none, none])]) + 22
    omega
  · show ((σ ++ [(4, 0, [none, none, none, none])]) ++ [(5, 0, [none, none])]).length + 1 ≤ (σ ++ [(4, 0, [none, none, none, none])]).length + 3 ∧ zsz ((σ ++ [(4, 0, [none, none, none, none])]) ++ [(5, 0, [none, none])]) + 15 ≤ zsz (σ ++ [(4, 0, [none, none, none, none])]) + 22
    rw [List.length_append, zsz_ap, show zsz [(5, 0, [none, none])] = 2 from rfl, List.length_singleton]
    omega
  refine nR (x := 15) (σ := σ ++ [(4, 0, [none, none, none, none])]) (by decide) (fun M1 L1 a1 c1 b1 => ?_)
  rw [e1]
  have ez : zsr (σ ++ [(4, 0, [none, none, none, none])] ++ [(5, 0, [some (σ.length + 1 + 1), none]), (20, 15, [])]) σ.length 0 (σ.length + 1) = σ ++ [(4, 0, [some (σ.length + 1), none, none, none]), (5, 0, [some (σ.length + 1 + 1), none]), (20, 15, [])] := by
    rw [List.append_assoc, List.singleton_append, zsr_new]; rfl
  refine zkq_i (zkd_app new_kd (by decide)) (zck_i ?_ (zkq_i ?_ (zkq_i ?_ (zkq_i ?_ (zck_i ?_ ?_)))))
  · show (zsr (σ ++ [(4, 0, [none, none, none, none])] ++ [(5, 0, [some (σ.length + 1 + 1), none]), (20, 15, [])]) σ.length 0 (σ.length + 1)).length + 1 ≤ (σ ++ [(4, 0, [none, none, none, none])]).length + 3 ∧ zsz (zsr (σ ++ [(4, 0, [none, none, none, none])] ++ [(5, 0, [some (σ.length + 1 + 1), none]), (20, 15, [])]) σ.length 0 (σ.length + 1)) + 5 ≤ zsz (σ ++ [(4, 0, [none, none, none, none])]) + 22
    rw [zsr_len, zsr_sz, zsz_ap, List.length_append]
    exact ⟨Nat.le_refl _, Nat.le_refl _⟩
  · show zkd (zsr (σ ++ [(4, 0, [none, none, none, none])] ++ [(5, 0, [some (σ.length + 1 + 1), none]), (20, 15, [])]) σ.length 0 (σ.length + 1) ++ [(20, 5, [])]) σ.length = 4
    exact zkd_app (by rw [zsr_kd]; exact zkd_app new_kd (by decide)) (by decide)
  · show zkd (zsr (zsr (σ ++ [(4, 0, [none, none, none, none])] ++ [(5, 0, [some (σ.length + 1 + 1), none]), (20, 15, [])]) σ.length 0 (σ.length + 1) ++ [(20, 5, [])]) σ.length 1 (zsr (σ ++ [(4, 0, [none, none, none, none])] ++ [(5, 0, [some (σ.length + 1 + 1), none]), (20, 15, [])]) σ.length 0 (σ.length + 1)).length) σ.length = 4
    rw [zsr_kd]
    exact zkd_app (by rw [zsr_kd]; exact zkd_app new_kd (by decide)) (by decide)
  · show zkd (zsr (zsr (σ ++ [(4, 0, [none, none, none, none])] ++ [(5, 0, [some (σ.length + 1 + 1), none]), (20, 15, [])]) σ.length 0 (σ.length + 1) ++ [(20, 5, [])]) σ.length 1 (zsr (σ ++ [(4, 0, [none, none, none, none])] ++ [(5, 0, [some (σ.length + 1 + 1), none]), (20, 15, [])]) σ.length 0 (σ.length + 1)).length) σ.length = 4
    rw [zsr_kd]
    exact zkd_app (by rw [zsr_kd]; exact zkd_app new_kd (by decide)) (by decide)
  · show (zsr (zsr (σ ++ [(4, 0, [none, none, none, none])] ++ [(5, 0, [some (σ.length + 1 + 1), none]), (20, 15, [])]) σ.length 0 (σ.length + 1) ++ [(20, 5, [])]) σ.length 1 (zsr (σ ++ [(4, 0, [none, none, none, none])] ++ [(5, 0, [some (σ.length + 1 + 1), none]), (20, 15, [])]) σ.length 0 (σ.length + 1)).length).length = (σ ++ [(4, 0, [none, none, none, none])]).length + 3 ∧ zsz (zsr (zsr (σ ++ [(4, 0, [none, none, none, none])] ++ [(5, 0, [some (σ.length + 1 + 1), none]), (20, 15, [])]) σ.length 0 (σ.length + 1) ++ [(20, 5, [])]) σ.length 1 (zsr (σ ++ [(4, 0, [none, none, none, none])] ++ [(5, 0, [some (σ.length + 1 + 1), none]), (20, 15, [])]) σ.length 0 (σ.length + 1)).length) = zsz (σ ++ [(4, 0, [none, none, none, none])]) + 22
    rw [zsr_len, zsr_sz, List.length_append, zsz_ap, zsr_len, zsr_sz, List.length_append, zsz_ap]
    exact ⟨rfl, rfl⟩
  · refine (show Q 0 (zsr (zsr (σ ++ [(4, 0, [none, none, none, none])] ++ [(5, 0, [some (σ.length + 1 + 1), none]), (20, 15, [])]) σ.length 0 (σ.length + 1) ++ [(20, 5, [])]) σ.length 1 (zsr (σ ++ [(4, 0, [none, none, none, none])] ++ [(5, 0, [some (σ.length + 1 + 1), none]), (20, 15, [])]) σ.length 0 (σ.length + 1)).length, zmu (zmu (zmz M1 (zsr (σ ++ [(4, 0, [none, none, none, none])] ++ [(5, 0, [some (σ.length + 1 + 1), none]), (20, 15, [])]) σ.length 0 (σ.length + 1)).length) σ.length 2 0) σ.length 3 (-9), zmz L1 (zsr (σ ++ [(4, 0, [none, none, none, none])] ++ [(5, 0, [some (σ.length + 1 + 1), none]), (20, 15, [])]) σ.length 0 (σ.length + 1)).length) from ?_)
    rw [ez, List.append_assoc, List.cons_append, zsr_new]
    have el : (σ ++ [((4 : Nat), (0 : Nat), [some (σ.length + 1), none, none, none]), (5, 0, [some (σ.length + 1 + 1), none]), (20, 15, [])]).length = σ.length + 3 := by rw [List.length_append]; rfl
    rw [el]
    refine h _ _ (fun k hk => ⟨?_, ?_⟩)
    · rw [zmu_kf (by omega), zmu_kf (by omega)]
      have := (b1 k (by omega)).1
      funext i
      have t := congrFun this i
      unfold zmz
      rw [if_neg (by omega), t]
      show (if k = (σ ++ [(4, 0, [none, none, none, none])]).length then (0 : Int) else M k i) = M k i
      rw [if_neg (by omega)]
    · have := (b1 k (by omega)).2
      funext i
      unfold zmz
      rw [if_neg (by omega), this]
end MP
