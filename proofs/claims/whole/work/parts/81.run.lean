/-! a machine that the kernel can run: for the constructors; the small machine's words as yes and no -/
abbrev qK : Type := List zV → List zV → zSh → zM → Bool
abbrev qC : Type := Nat → List zV → zSh → zM → (zSh → zM → Bool) → Bool
def qR (k : qK) (k' : zMS → Prop) : Prop := ∀ (ls st : List zV) (σ : zSh) (M L : zM), k ls st σ M = true → k' (ls, st, σ, M, L)
/-- a list laid out -/
noncomputable def qf1 (l : List (Option Nat)) : (List (Option Nat) → Bool) → Bool := List.rec (motive := fun _ => (List (Option Nat) → Bool) → Bool) (fun k => k []) (fun o _ ih k => match o with
  | none => ih (fun y => k (none :: y))
  | some q => ih (fun y => k (some q :: y))) l
theorem qf1_eq : ∀ (l : List (Option Nat)) (k : List (Option Nat) → Bool), qf1 l k = k l
  | [], _ => rfl
  | none :: l, k => qf1_eq l (fun y => k (none :: y))
  | some q :: l, k => qf1_eq l (fun y => k (some q :: y))
noncomputable def qf (l : zSh) : (zSh → Bool) → Bool := List.rec (motive := fun _ => (zSh → Bool) → Bool) (fun k => k []) (fun e _ ih k => match e with
  | (a, n, r) => qf1 r (fun r => ih (fun y => k ((a, n, r) :: y)))) l
theorem qf_eq : ∀ (l : zSh) (k : zSh → Bool), qf l k = k l
  | [], _ => rfl
  | (a, n, r) :: l, k => (qf1_eq r (fun r => qf l (fun y => k ((a, n, r) :: y)))).trans (qf_eq l (fun y => k ((a, n, r) :: y)))
theorem qand {a b : Bool} (h : (a && b) = true) : a = true ∧ b = true := by
  rw [Bool.and_eq_true] at h; exact h
def qpu (v : zV) (k : qK) : qK := fun ls st σ M => k ls (v :: st) σ M
def qldI (i : Nat) (k : qK) : qK := fun ls st σ M => match ls.getD i zN with
  | .inl x => k ls (zI x :: st) σ M
  | _ => false
def qldR (i : Nat) (k : qK) : qK := fun ls st σ M => match ls.getD i zN with
  | .inr (.inr (.inl x)) => k ls (zR x :: st) σ M
  | _ => false
def qstI (i : Nat) (k : qK) : qK := fun ls st σ M => match st with
  | .inl x :: st => k (zset ls i (zI x)) st σ M
  | _ => false
def qinc (i : Nat) (n : Int) (k : qK) : qK := fun ls st σ M => match ls.getD i zN with
  | .inl x => k (zset ls i (zI (zwr (x + n)))) st σ M
  | _ => false
def qdup (k : qK) : qK := fun ls st σ M => match st with
  | .inl x :: st => k ls (zI x :: zI x :: st) σ M
  | .inr (.inr (.inl x)) :: st => k ls (zR x :: zR x :: st) σ M
  | _ => false
def qgf (ci j ty : Nat) (k : qK) : qK := fun ls st σ M => match st with
  | .inr (.inr (.inl r)) :: st => Nat.beq (zkd σ r) ci && (match ty with
    | 2 => (match zrf σ r j with
      | some q => k ls (zR q :: st) σ M
      | none => false)
    | _ => k ls (zI (M r j) :: st) σ M)
  | _ => false
noncomputable def qpf (ci j ty : Nat) (k : qK) : qK := fun ls st σ M => match ty with
  | 0 => (match st with
    | .inl x :: .inr (.inr (.inl r)) :: st => Nat.beq (zkd σ r) ci && k ls st σ (zmu M r j x)
    | _ => false)
  | 1 => (match st with
    | .inl x :: .inr (.inr (.inl r)) :: st => Nat.beq (zkd σ r) ci && (if x = 0 then k ls st σ (zmu M r j 0) else if x = 1 then k ls st σ (zmu M r j 1) else false)
    | _ => false)
  | _ => (match st with
    | .inr (.inr (.inl q)) :: .inr (.inr (.inl r)) :: st => Nat.beq (zkd σ r) ci && qf (zsr σ r j q) (fun σ => k ls st σ M)
    | _ => false)
def qix (σ : zSh) (t a : Nat) (i : Int) : Bool := Nat.beq (zkd σ a) t && decide (0 ≤ i ∧ i < zln σ a)
def qias (k : qK) : qK := fun ls st σ M => match st with
  | .inl x :: .inl i :: .inr (.inr (.inl a)) :: st => qix σ 20 a i && k ls st σ (zmu M a i.toNat x)
  | _ => false
noncomputable def qaas (t : Nat) (k : qK) : qK := fun ls st σ M => match st with
  | .inr (.inr (.inl q)) :: .inl i :: .inr (.inr (.inl a)) :: st => qix σ t a i && (Nat.beq (zkd σ q) (if t = 23 then 2 else 5) && qf (zsr σ a i.toNat q) (fun σ => k ls st σ M))
  | _ => false
noncomputable def qnew (b : zB) (ci n : Nat) (k : qK) : qK := fun ls st σ M => decide (σ.length + 1 ≤ b.1 + b.2.2.1 ∧ zsz σ + n ≤ b.2.1 + b.2.2.2) && qf (σ ++ [(ci, 0, List.replicate n none)]) (fun σ' => k ls (zR σ.length :: st) σ' (zmz M σ.length))
noncomputable def qnwa (b : zB) (t : Nat) (k : qK) : qK := fun ls st σ M => match st with
  | .inl x :: st => decide (0 ≤ x ∧ x ≤ 20000) && (decide (σ.length + 1 ≤ b.1 + b.2.2.1 ∧ zsz σ + x.toNat ≤ b.2.1 + b.2.2.2) && qf (σ ++ [(t, x.toNat, if 23 ≤ t then List.replicate x.toNat none else [])]) (fun σ' => k ls (zR σ.length :: st) σ' (zmz M σ.length)))
  | _ => false
def qobj (k : qK) : qK := fun ls st σ M => match st with
  | .inr (.inr (.inl _)) :: st => Nat.ble (zcat st) 8 && k ls st σ M
  | _ => false
def qmm (f : Int → Int → Int) (k : qK) : qK := fun ls st σ M => match st with
  | .inl y :: .inl x :: st => Nat.ble (zcat st) 8 && k ls (zI (f x y) :: st) σ M
  | _ => false
def qbud (b : zB) (n : Nat × Nat) (σ : zSh) : Bool := match n.1 with
  | 0 => true
  | _ + 1 => decide (σ.length + n.1 ≤ b.1 + b.2.2.1 ∧ zsz σ + n.2 ≤ b.2.1 + b.2.2.2)
def qhd (a : List zV) : Bool := match a with
  | .inr (.inr (.inl _)) :: _ => true
  | _ => false
def qcal (b : zB) (C : qC) (μ kind n rk : Nat) (k : qK) : qK := fun ls st σ M => (Nat.beq rk 0 && (Nat.beq kind 2 || Nat.beq kind 4)) && (qhd (st.take n).reverse && ((Nat.ble n st.length && Nat.ble (zcat (st.drop n)) 8) && (qbud b (zal μ (st.take n).reverse) σ && C μ (st.take n).reverse σ M (fun σ' M' => k ls (st.drop n) σ' M'))))
def qif (c : ClassFile.Cond) (x y : Int) (a b : Bool) : Bool := match c with
  | .eq => if x = y then a else b
  | .ne => if x = y then b else a
  | .lt => if x < y then a else b
  | .ge => if x < y then b else a
  | .gt => if y < x then a else b
  | .le => if y < x then b else a
def qcmp (c : ClassFile.Cond) (a k : qK) : qK := fun ls st σ M => match st with
  | .inl y :: .inl x :: st => qif c x y (a ls st σ M) (k ls st σ M)
  | _ => false
def qend (b : zB) (Q : zSh → zM → Bool) : qK := fun _ st σ M => match st with
  | [] => (match b.2.2.1 with
    | 0 => Q σ M
    | _ + 1 => decide (σ.length = b.1 + b.2.2.1 ∧ zsz σ = b.2.1 + b.2.2.2) && Q σ M)
  | _ => false
noncomputable def qB (b : zB) (C : qC) (J : Nat → qK) (Q : zSh → zM → Bool) : List zIns → Nat → qK
  | [], pc => J pc
  | i :: is, pc => match i.1 with
    | .iconst n => qpu (zI n) (qB b C J Q is (pc + 1))
    | .bipush n => qpu (zI n) (qB b C J Q is (pc + 2))
    | .sipush n => qpu (zI n) (qB b C J Q is (pc + 3))
    | .iload_n n => qldI (n : Nat) (qB b C J Q is (pc + 1))
    | .aload_n n => qldR (n : Nat) (qB b C J Q is (pc + 1))
    | .istore_n n => qstI (n : Nat) (qB b C J Q is (pc + 1))
    | .iinc n d => qinc n d (qB b C J Q is (pc + 3))
    | .dup => qdup (qB b C J Q is (pc + 1))
    | .getfield _ => qgf (i.2.getD 0 0) (i.2.getD 1 0) (i.2.getD 3 0) (qB b C J Q is (pc + 3))
    | .putfield _ => qpf (i.2.getD 0 0) (i.2.getD 1 0) (i.2.getD 3 0) (qB b C J Q is (pc + 3))
    | .iastore => qias (qB b C J Q is (pc + 1))
    | .aastore => qaas (i.2.getD 0 0) (qB b C J Q is (pc + 1))
    | .new _ => qnew b (i.2.getD 0 0) (i.2.getD 2 0) (qB b C J Q is (pc + 3))
    | .newarray _ => qnwa b (i.2.getD 0 0) (qB b C J Q is (pc + 2))
    | .anewarray _ => qnwa b (i.2.getD 0 0) (qB b C J Q is (pc + 3))
    | .goto _ => J (i.2.getD 0 0)
    | .if_icmp c _ => qcmp c (J (i.2.getD 0 0)) (qB b C J Q is (pc + 3))
    | .return_ => qend b Q
    | .invokestatic _ => (match i.2.getD 2 0 with
      | 6 => qmm zmax (qB b C J Q is (pc + 3))
      | _ => fun _ _ _ _ => false)
    | .invokespecial _ => (match i.2.getD 2 0 with
      | 5 => qobj (qB b C J Q is (pc + 3))
      | _ => qcal b C (i.2.getD 0 0) (i.2.getD 2 0) (i.2.getD 3 0) (i.2.getD 4 0) (qB b C J Q is (pc + 3)))
    | _ => fun _ _ _ _ => false
noncomputable def qJ (b : zB) (C : qC) (Q : zSh → zM → Bool) (μ : Nat) : Nat → Nat → qK
  | 0, _ => fun _ _ _ _ => false
  | n + 1, pc => qB b C (qJ b C Q μ n) Q (zblk μ pc) pc
noncomputable def qX : Nat → qC
  | 0 => fun _ _ _ _ _ => false
  | n + 1 => fun μ a σ M Q => (decide (μ < 225) && (Nat.ble (zini a).length (zmaxL μ) && Nat.beq (zrk μ) 0)) && qB (σ.length, zsz σ, (zal μ a).1, (zal μ a).2) (qX n) (qJ (σ.length, zsz σ, (zal μ a).1, (zal μ a).2) (qX n) Q μ 60) Q (zblk μ 0) 0 (zini a ++ List.replicate (zmaxL μ - (zini a).length) zN) [] σ M
section QB
variable {b : zB} {k : qK} {k' : zMS → Prop} {n i j t ci ty : Nat}
theorem qpu_ok {v : zV} (hk : qR k k') : qR (qpu v k) (fun S => zpu v S k') := fun ls st σ M L h => hk _ _ _ _ _ h
theorem qldI_ok (hk : qR k k') : qR (qldI i k) (fun S => zldI i S k') := by
  intro ls st σ M L h
  unfold qldI at h
  unfold zldI
  dsimp only
  split at h
  · next x hx => rw [hx]; exact hk _ _ _ _ _ h
  · cases h
theorem qldR_ok (hk : qR k k') : qR (qldR i k) (fun S => zldR i S k') := by
  intro ls st σ M L h
  unfold qldR at h
  unfold zldR
  dsimp only
  split at h
  · next x hx => rw [hx]; exact hk _ _ _ _ _ h
  · cases h
theorem qinc_ok {d : Int} (hk : qR k k') : qR (qinc i d k) (fun S => zinc i d S k') := by
  intro ls st σ M L h
  unfold qinc at h
  unfold zinc
  dsimp only
  split at h
  · next x hx => rw [hx]; exact hk _ _ _ _ _ h
  · cases h
theorem qstI_ok (hk : qR k k') : qR (qstI i k) (fun S => zstI i S k') := by
  intro ls st σ M L h
  unfold qstI at h
  split at h
  · exact hk _ _ _ _ _ h
  · cases h
theorem qdup_ok (hk : qR k k') : qR (qdup k) (fun S => zdup S k') := by
  intro ls st σ M L h
  unfold qdup at h
  split at h
  · exact hk _ _ _ _ _ h
  · exact hk _ _ _ _ _ h
  · cases h
theorem qgf_ok (hk : qR k k') : qR (qgf ci j ty k) (fun S => zgf ci j ty S k') := by
  intro ls st σ M L h
  unfold qgf at h
  split at h
  · next r st =>
    obtain ⟨h1, h2⟩ := qand h
    refine zkq_i (Nat.eq_of_beq_eq_true h1) ?_
    dsimp only
    split at h2
    · split at h2
      · next q hq => exact zom_i hq (hk _ _ _ _ _ h2)
      · cases h2
    · next hn =>
      split
      · exact absurd rfl hn
      · exact hk _ _ _ _ _ h2
  · cases h
theorem qpf_ok (hk : qR k k') : qR (qpf ci j ty k) (fun S => zpf ci j ty S k') := by
  intro ls st σ M L h
  unfold qpf at h
  unfold zpf
  dsimp only
  split at h
  · split at h
    · obtain ⟨h1, h2⟩ := qand h
      exact zkq_i (Nat.eq_of_beq_eq_true h1) (hk _ _ _ _ _ h2)
    · cases h
  · split at h
    · next x r st =>
      obtain ⟨h1, h2⟩ := qand h
      refine zkq_i (Nat.eq_of_beq_eq_true h1) ?_
      unfold zbl
      split at h2
      · next e => rw [if_pos e]; exact hk _ _ _ _ _ h2
      · next e =>
        rw [if_neg e]
        split at h2
        · next e2 => rw [if_pos e2]; exact hk _ _ _ _ _ h2
        · cases h2
    · cases h
  · next n0 n1 =>
    split
    · exact absurd rfl n0
    · exact absurd rfl n1
    · split at h
      · obtain ⟨h1, h2⟩ := qand h
        rw [qf_eq] at h2
        exact zkq_i (Nat.eq_of_beq_eq_true h1) (hk _ _ _ _ _ h2)
      · cases h
theorem qix_ok {σ : zSh} {a : Nat} {x : Int} {P : Prop} (h : qix σ t a x = true) (hp : P) : zix σ t a x P := by
  obtain ⟨h1, h2⟩ := qand h
  exact zkq_i (Nat.eq_of_beq_eq_true h1) (zck_i (of_decide_eq_true h2) hp)
theorem qias_ok (hk : qR k k') : qR (qias k) (fun S => zias S k') := by
  intro ls st σ M L h
  unfold qias at h
  split at h
  · obtain ⟨h1, h2⟩ := qand h
    exact qix_ok h1 (hk _ _ _ _ _ h2)
  · cases h
theorem qaas_ok (hk : qR k k') : qR (qaas t k) (fun S => zaas t S k') := by
  intro ls st σ M L h
  unfold qaas at h
  split at h
  · obtain ⟨h1, h2⟩ := qand h
    obtain ⟨h2, h3⟩ := qand h2
    rw [qf_eq] at h3
    exact qix_ok h1 (zkq_i (Nat.eq_of_beq_eq_true h2) (hk _ _ _ _ _ h3))
  · cases h
theorem qnew_ok (hk : qR k k') : qR (qnew b ci n k) (fun S => znew b ci n S k') := by
  intro ls st σ M L h
  unfold qnew at h
  obtain ⟨h1, h2⟩ := qand h
  rw [qf_eq] at h2
  exact zck_i (of_decide_eq_true h1) (hk _ _ _ _ _ h2)
theorem qnwa_ok (hk : qR k k') : qR (qnwa b t k) (fun S => znwa b t S k') := by
  intro ls st σ M L h
  unfold qnwa at h
  split at h
  · obtain ⟨h1, h2⟩ := qand h
    obtain ⟨h2, h3⟩ := qand h2
    rw [qf_eq] at h3
    exact zck_i (of_decide_eq_true h1) (zck_i (of_decide_eq_true h2) (hk _ _ _ _ _ h3))
  · cases h
theorem qobj_ok (hk : qR k k') : qR (qobj k) (fun S => zobj S k') := by
  intro ls st σ M L h
  unfold qobj at h
  split at h
  · obtain ⟨h1, h2⟩ := qand h
    show zkb _ _
    rw [h1]
    exact hk _ _ _ _ _ h2
  · cases h
theorem qmm_ok {f : Int → Int → Int} (hk : qR k k') : qR (qmm f k) (fun S => zmm f S k') := by
  intro ls st σ M L h
  unfold qmm at h
  split at h
  · obtain ⟨h1, h2⟩ := qand h
    show zkb _ _
    rw [h1]
    exact hk _ _ _ _ _ h2
  · cases h
def qCR (C : qC) (C' : zCT) : Prop := ∀ (μ : Nat) (a : List zV) (σ : zSh) (M L : zM) (Q : zSh → zM → Bool) (Q' : Int → zW → Prop), (∀ σ M L, Q σ M = true → Q' 0 (σ, M, L)) → C μ a σ M Q = true → C' μ a (σ, M, L) Q'
theorem qcal_ok {C : qC} {C' : zCT} {μ kind rk : Nat} (hC : qCR C C') (hk : qR k k') : qR (qcal b C μ kind n rk k) (fun S => zcal b C' μ kind n rk ci S k') := by
  intro ls st σ M L h
  unfold qcal at h
  obtain ⟨h1, h⟩ := qand h
  obtain ⟨h2, h⟩ := qand h
  obtain ⟨h3, h⟩ := qand h
  obtain ⟨h4, h5⟩ := qand h
  obtain ⟨h6, h7⟩ := qand h1
  have e : rk = 0 := Nat.eq_of_beq_eq_true h6
  subst e
  have g : zkb (Nat.ble n st.length && Nat.ble (zcat (st.drop n)) 8) (zbud b (zal μ (st.take n).reverse) σ (C' μ (st.take n).reverse (σ, M, L) (fun _ w => k' (ls, st.drop n, w)))) := by
    rw [h3]
    show zbud b (zal μ (st.take n).reverse) σ (C' μ (st.take n).reverse (σ, M, L) (fun _ w => k' (ls, st.drop n, w)))
    have h8 := hC μ (st.take n).reverse σ M L _ (fun _ w => k' (ls, st.drop n, w)) (fun σ M L q => hk _ _ _ _ L q) h5
    unfold zbud
    unfold qbud at h4
    split
    · exact h8
    · next m hm =>
      rw [hm] at h4 ⊢
      exact zck_i (of_decide_eq_true h4) h8
  show zrcv σ kind ci (st.take n).reverse _
  unfold qhd at h2
  split at h2
  · next x l hl =>
    rw [hl] at g ⊢
    rw [Bool.or_eq_true] at h7
    rcases h7 with h7 | h7
    · have e := Nat.eq_of_beq_eq_true h7
      subst e
      exact g
    · have e := Nat.eq_of_beq_eq_true h7
      subst e
      exact g
  · cases h2
theorem qif_ok {c : ClassFile.Cond} {x y : Int} {a f : Bool} {a' f' : Prop} (ha : a = true → a') (hf : f = true → f') (h : qif c x y a f = true) : zif c x y a' f' := by
  cases c <;> unfold qif at h <;> unfold zif <;> dsimp only at h ⊢ <;> split at h <;> (first | (rw [if_pos (by assumption)]; first | exact ha h | exact hf h) | (rw [if_neg (by assumption)]; first | exact ha h | exact hf h))
theorem qend_ok {Q : zSh → zM → Bool} {Q' : Int → zW → Prop} (hQ : ∀ σ M L, Q σ M = true → Q' 0 (σ, M, L)) {ls st : List zV} {σ : zSh} {M L : zM} (h : qend b Q ls st σ M = true) : st = [] ∧ zend b (ls, [], σ, M, L) (Q' 0 (σ, M, L)) := by
  unfold qend at h
  split at h
  · refine ⟨rfl, ?_⟩
    unfold zend
    split at h
    · next e => rw [e]; exact hQ _ _ _ h
    · next m e =>
      obtain ⟨h1, h2⟩ := qand h
      split
      · next e2 => rw [e2] at e; cases e
      · exact zck_i (of_decide_eq_true h1) (hQ _ _ _ h2)
  · cases h
end QB
