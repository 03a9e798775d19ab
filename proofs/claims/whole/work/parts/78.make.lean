/-! what the constructors make: Laws -/
section ML
variable {d : Nat} {M L : zM} {Q : Int → zW → Prop} {σ : zSh} {r : Nat}
/-- the shape with two more arrays of six -/
def shL (σ : zSh) (r : Nat) : zSh := zsr (zsr (σ ++ [(20, 6, [])]) r 0 σ.length ++ [(20, 6, [])]) r 1 (σ.length + 1)
theorem shL_len : (shL σ r).length = σ.length + 2 := by
  unfold shL
  rw [zsr_len, List.length_append, zsr_len, List.length_append]
  rfl
theorem shL_sz : zsz (shL σ r) = zsz σ + 12 := by
  unfold shL
  rw [zsr_sz, zsz_app, zsr_sz, zsz_app]
  rfl
theorem shL_kd {c : Nat} (h : zkd σ r = c) (hc : c ≠ 99) : zkd (shL σ r) r = c := by
  unfold shL
  rw [zsr_kd]
  exact zkd_app (by rw [zsr_kd]; exact zkd_app h hc) hc
theorem la_mk {M0 L0 : zM} (hr : zkd (shL σ r) r = 2) (hf : zrf (shL σ r) r 1 = some (σ.length + 1)) (hk : zkd (shL σ r) (σ.length + 1) = 20) (hn : zln (shL σ r) (σ.length + 1) = 6)
    (h : ∀ M' : zM, (∀ a : Nat, a < 6 → M' (σ.length + 1) a = (a : Int)) → (∀ k, k ≠ σ.length + 1 → M' k = M0 k) → Q 0 (shL σ r, M', L0)) :
    ∀ (n a : Nat) (Mk : zM), a + n = 6 → (∀ i, i < a → Mk (σ.length + 1) i = (i : Int)) → (∀ k, k ≠ σ.length + 1 → Mk k = M0 k) → zEx (d + 1) m_la_init (σ.length, zsz σ, 2, 12) Q 22 ([zR r, zI (a : Int)], [], shL σ r, Mk, L0) := by
  intro n
  induction n with
  | zero =>
    intro a Mk ha h1 h2
    refine zEx_run [22] 2 (by decide) ?_
    refine zif_f (c := (a : Int) < 6) (by omega) ?_
    refine zck_i ⟨by rw [shL_len], by rw [shL_sz]⟩ ?_
    exact h Mk (fun i hi => h1 i (by omega)) h2
  | succ n ih =>
    intro a Mk ha h1 h2
    refine zEx_run [22] 2 (by decide) ?_
    refine zif_t (c := ((a : Nat) : Int) < 6) (by omega) ?_
    refine zkq_i hr (zom_i hf (zkq_i hk (zck_i (by rw [hn]; omega) ?_)))
    have := ih (a + 1) (zmu Mk (σ.length + 1) a (a : Int)) (by omega) (fun i hi => by
      by_cases e : i = a
      · rw [e, zmu_s]
      · rw [zmu_j e]; exact h1 i (by omega)) (fun k hk => by rw [zmu_kf hk]; exact h2 k hk)
    refine (show zEx (d + 1) m_la_init (σ.length, zsz σ, 2, 12) Q 22 ([zR r, zI (zwr ((a : Int) + 1))], [], shL σ r, zmu Mk (σ.length + 1) (Int.toNat (a : Int)) (a : Int), L0) from ?_)
    rw [zwr_id (by omega) (by omega), show ((a : Int) + 1) = ((a + 1 : Nat) : Int) by omega, Int.toNat_natCast]
    exact this
theorem zat_kd {σ : zSh} {k : Nat} {e : Nat × Nat × List (Option Nat)} (h : σ[k]? = some e) : zkd σ k = e.1 := by
  unfold zkd
  rw [h]
theorem zat_ln {σ : zSh} {k : Nat} {e : Nat × Nat × List (Option Nat)} (h : σ[k]? = some e) : zln σ k = (e.2.1 : Int) := by
  unfold zln
  rw [h]
theorem zat_rf {σ : zSh} {k j : Nat} {e : Nat × Nat × List (Option Nat)} (h : σ[k]? = some e) : zrf σ k j = (e.2.2[j]?).join := by
  unfold zrf
  rw [h]
theorem shL_r (h : σ[r]? = some (2, 0, [none, none])) : (shL σ r)[r]? = some (2, 0, [some σ.length, some (σ.length + 1)]) := by
  have hr : r < σ.length := (List.getElem?_eq_some_iff.mp h).1
  unfold shL
  rw [zsr_at, if_pos rfl, List.getElem?_append_left (by rw [zsr_len, List.length_append]; omega), zsr_at, if_pos rfl, List.getElem?_append_left hr, h]
  rfl
theorem shL_n (h : σ[r]? = some (2, 0, [none, none])) : (shL σ r)[σ.length + 1]? = some (20, 6, []) := by
  have hr : r < σ.length := (List.getElem?_eq_some_iff.mp h).1
  unfold shL
  rw [zsr_at, if_neg (by omega), List.getElem?_append_right (by rw [zsr_len, List.length_append]; exact Nat.le_refl _), zsr_len, List.length_append]
  simp
theorem shL_m (h : σ[r]? = some (2, 0, [none, none])) : (shL σ r)[σ.length]? = some (20, 6, []) := by
  have hr : r < σ.length := (List.getElem?_eq_some_iff.mp h).1
  unfold shL
  rw [zsr_at, if_neg (by omega), List.getElem?_append_left (by rw [zsr_len, List.length_append]; simp), zsr_at, if_neg (by omega)]
  simp
theorem shL_o {k : Nat} (hk : k < σ.length) (hne : k ≠ r) : (shL σ r)[k]? = σ[k]? := by
  unfold shL
  rw [zsr_at, if_neg hne, List.getElem?_append_left (by rw [zsr_len, List.length_append]; omega), zsr_at, if_neg hne, List.getElem?_append_left hk]
set_option maxRecDepth 20000 in
/-- new Laws at r -/
theorem n_la_init (h0 : σ[r]? = some (2, 0, [none, none])) (h : ∀ M' L' : zM, (∀ a : Nat, a < 6 → M' σ.length a = 0 ∧ M' (σ.length + 1) a = (a : Int)) → (∀ k, k < σ.length → M' k = M k ∧ L' k = L k) → Q 0 (shL σ r, M', L')) : zEv (d + 1) m_la_init [zR r] (σ, M, L) Q := by
  have hr : zkd σ r = 2 := zat_kd h0
  refine zEv_of [zR r, zN] (by decide) rfl (Nat.le_of_ble_eq_true rfl) (zEx_run [22] 2 (by decide) ?_)
  refine zck_i ?_ (zkq_i (zkd_app hr (by decide)) (zck_i ?_ (zkq_i ?_ ?_)))
  · show σ.length + 1 ≤ σ.length + 2 ∧ zsz σ + 6 ≤ zsz σ + 12
    omega
  · show (zsr (σ ++ [(20, 6, [])]) r 0 σ.length).length + 1 ≤ σ.length + 2 ∧ zsz (zsr (σ ++ [(20, 6, [])]) r 0 σ.length) + 6 ≤ zsz σ + 12
    rw [zsr_len, zsr_sz, zsz_app, List.length_append]
    exact ⟨Nat.le_refl _, Nat.le_refl _⟩
  · show zkd (zsr (σ ++ [(20, 6, [])]) r 0 σ.length ++ [(20, 6, [])]) r = 2
    exact zkd_app (by rw [zsr_kd]; exact zkd_app hr (by decide)) (by decide)
  · have e : (zsr (σ ++ [(20, 6, [])]) r 0 σ.length).length = σ.length + 1 := by rw [zsr_len, List.length_append]; rfl
    refine (show zEx (d + 1) m_la_init (σ.length, zsz σ, 2, 12) Q 22 ([zR r, zI 0], [], zsr (zsr (σ ++ [(20, 6, [])]) r 0 σ.length ++ [(20, 6, [])]) r 1 (zsr (σ ++ [(20, 6, [])]) r 0 σ.length).length, zmz (zmz M σ.length) (zsr (σ ++ [(20, 6, [])]) r 0 σ.length).length, zmz (zmz L σ.length) (zsr (σ ++ [(20, 6, [])]) r 0 σ.length).length) from ?_)
    rw [e]
    refine la_mk (M0 := zmz (zmz M σ.length) (σ.length + 1)) (shL_kd hr (by decide)) (by rw [zat_rf (shL_r h0)]; rfl) (zat_kd (shL_n h0)) (by rw [zat_ln (shL_n h0)]; rfl) (fun M' a1 a2 => h M' _ (fun a ha => ⟨?_, a1 a ha⟩) (fun k hk => ⟨?_, ?_⟩)) 6 0 _ (by omega) (fun i hi => by omega) (fun _ _ => rfl)
    · rw [a2 σ.length (by omega)]
      unfold zmz
      rw [if_neg (by omega), if_pos rfl]
    · rw [a2 k (by omega)]
      funext b
      unfold zmz
      rw [if_neg (by omega), if_neg (by omega)]
    · funext b
      unfold zmz
      rw [if_neg (by omega), if_neg (by omega)]
end ML
