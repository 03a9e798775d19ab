/-! what the constructors make -/
section MK
variable {d : Nat} {M L : zM} {Q : Int → zW → Prop} {σ τ : zSh} {r k j : Nat} {x : Int}
theorem zkd_app {c : Nat} (h : zkd σ r = c) (hc : c ≠ 99) : zkd (σ ++ τ) r = c := by
  unfold zkd at h ⊢
  cases q : σ[r]? with
  | none => rw [q] at h; exact absurd h.symm hc
  | some e =>
    rw [q] at h
    have hr : r < σ.length := (List.getElem?_eq_some_iff.mp q).1
    rw [List.getElem?_append_left hr, q]
    exact h
set_option maxRecDepth 20000 in
theorem n_ro_init (hr : zkd σ r = 5) (hx : 0 ≤ x ∧ x ≤ 20000) (h : Q 0 (zsr (σ ++ [(20, x.toNat, [])]) r 0 σ.length, zmz (zmu M r 1 0) σ.length, zmz L σ.length)) : zEv (d + 1) m_ro_init [zR r, zI x] (σ, M, L) Q := by
  have e : zmax x 0 = x := by unfold zmax; omega
  refine zEv_of [zR r, zI x] (by decide) rfl (Nat.le_of_ble_eq_true rfl) (zEx_run [] 2 (by decide) ?_)
  refine zkq_i hr (zck_i ?_ (zck_i ?_ (zkq_i ?_ ?_)))
  · show 0 ≤ zmax x 0 ∧ zmax x 0 ≤ 20000
    rw [e]; exact hx
  · show σ.length + 1 ≤ σ.length + 1 ∧ zsz σ + (zmax x 0).toNat ≤ zsz σ + x.toNat
    rw [e]; exact ⟨Nat.le_refl _, Nat.le_refl _⟩
  · exact zkd_app hr (by decide)
  · refine zck_i ?_ ?_
    · show (zsr (σ ++ [(20, (zmax x 0).toNat, [])]) r 0 σ.length).length = σ.length + 1 ∧ zsz (zsr (σ ++ [(20, (zmax x 0).toNat, [])]) r 0 σ.length) = zsz σ + x.toNat
      rw [zsr_len, zsr_sz, zsz_app, e, List.length_append]
      exact ⟨rfl, rfl⟩
    · show Q 0 (zsr (σ ++ [(20, (zmax x 0).toNat, [])]) r 0 σ.length, zmz (zmu M r 1 0) σ.length, zmz L σ.length)
      rw [e]; exact h
end MK
