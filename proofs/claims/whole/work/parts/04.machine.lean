/-! a small machine over the same code: ints as whole numbers, cells by their numbers, the heap's ints and longs as tables -/
abbrev zV : Type := Int ⊕ (Int ⊕ (Nat ⊕ Unit))
abbrev zI (x : Int) : zV := Sum.inl x
abbrev zL (x : Int) : zV := Sum.inr (Sum.inl x)
abbrev zR (k : Nat) : zV := Sum.inr (Sum.inr (Sum.inl k))
abbrev zN : zV := Sum.inr (Sum.inr (Sum.inr ()))
abbrev zSh : Type := List (Nat × Nat × List (Option Nat))
abbrev zM : Type := Nat → Nat → Int
abbrev zW : Type := zSh × zM × zM
abbrev zMS : Type := List zV × List zV × zW
def zck (c : Prop) [Decidable c] (k : Prop) : Prop := if c then k else False
theorem zck_i {c k : Prop} [Decidable c] (h : c) (hk : k) : zck c k := by unfold zck; rw [if_pos h]; exact hk
theorem zck_e {c k : Prop} [Decidable c] (h : zck c k) : c ∧ k := by
  unfold zck at h
  split at h
  · next hc => exact ⟨hc, h⟩
  · exact absurd h id
/-- a check that the kernel can do -/
def zkb (c : Bool) (k : Prop) : Prop := match c with
  | true => k
  | false => False
theorem zkb_e {c : Bool} {k : Prop} (h : zkb c k) : c = true ∧ k := by
  cases c
  · exact absurd h id
  · exact ⟨rfl, h⟩
def zkq (a b : Nat) (k : Prop) : Prop := zkb (Nat.beq a b) k
theorem zkq_e {a b : Nat} {k : Prop} (h : zkq a b k) : a = b ∧ k := ⟨Nat.eq_of_beq_eq_true (zkb_e h).1, (zkb_e h).2⟩
theorem zkq_i {a b : Nat} {k : Prop} (h : a = b) (hk : k) : zkq a b k := by
  subst h
  unfold zkq
  rw [Nat.beq_refl]
  exact hk
def zom (o : Option Nat) (k : Nat → Prop) : Prop := match o with
  | some q => k q
  | none => False
def zwr (x : Int) : Int := (Int32.ofInt x).toInt
def zwl (x : Int) : Int := (Int64.ofInt x).toInt
def zand (x y : Int) : Int := (Int32.ofInt x &&& Int32.ofInt y).toInt
def zor (x y : Int) : Int := (Int32.ofInt x ||| Int32.ofInt y).toInt
def zxor (x y : Int) : Int := (Int32.ofInt x ^^^ Int32.ofInt y).toInt
def zshl (x y : Int) : Int := (Int32.ofInt x <<< (Int32.ofInt y &&& 31)).toInt
def zshr (x y : Int) : Int := (Int32.ofInt x >>> (Int32.ofInt y &&& 31)).toInt
def zushr (x y : Int) : Int := ((Int32.ofInt x).toUInt32 >>> ((Int32.ofInt y).toUInt32 &&& Int32.toUInt32 31)).toInt32.toInt
def zdiv (x y : Int) : Int := (Int32.ofInt x / Int32.ofInt y).toInt
def zrem (x y : Int) : Int := (Int32.ofInt x - Int32.ofInt x / Int32.ofInt y * Int32.ofInt y).toInt
def zldiv (x y : Int) : Int := (Int64.ofInt x / Int64.ofInt y).toInt
def zlrem (x y : Int) : Int := (Int64.ofInt x - Int64.ofInt x / Int64.ofInt y * Int64.ofInt y).toInt
def zmax (x y : Int) : Int := max x y
def zmin (x y : Int) : Int := min x y
def zcmp (x y : Int) : Int := if y < x then 1 else if x = y then 0 else -1
def zmu (M : zM) (k j : Nat) (v : Int) : zM := fun a b => if a = k ∧ b = j then v else M a b
def zmz (M : zM) (k : Nat) : zM := fun a b => if a = k then 0 else M a b
def zkd (σ : zSh) (k : Nat) : Nat := match σ[k]? with
  | some e => e.1
  | none => 99
def zln (σ : zSh) (k : Nat) : Int := match σ[k]? with
  | some e => (e.2.1 : Int)
  | none => 0
def zrf (σ : zSh) (k j : Nat) : Option Nat := match σ[k]? with
  | some e => (e.2.2[j]?).join
  | none => none
def zsr (σ : zSh) (k j q : Nat) : zSh := match σ[k]? with
  | some e => σ.set k (e.1, e.2.1, e.2.2.set j (some q))
  | none => σ
def znf (ci : Nat) : Nat := (zFT.getD ci []).length
def zft (ci j : Nat) : Nat := (zFT.getD ci []).getD j 0
def zsz1 (e : Nat × Nat × List (Option Nat)) : Nat := if e.1 < 20 then znf e.1 else e.2.1
def zsz : zSh → Nat
  | [] => 0
  | e :: σ => zsz1 e + zsz σ
/-- the words by their places: table by table, for the kernel's sake -/
def ztb (i : Nat) : Option Jvm.Cond :=
  if i < 16 then (lw_privs_1[i]?).map (fun q => .selects q.1.cls q.1 q.1)
  else if i < 32 then (lw_privs_2[i - 16]?).map (fun q => .selects q.1.cls q.1 q.1)
  else if i < 48 then (lw_privs_3[i - 32]?).map (fun q => .selects q.1.cls q.1 q.1)
  else if i < 49 then (lw_privs_4[i - 48]?).map (fun q => .selects q.1.cls q.1 q.1)
  else if i < 289 then tables_1_1[i - 49]?
  else if i < 529 then tables_1_2[i - 289]?
  else if i < 769 then tables_1_3[i - 529]?
  else if i < 1009 then tables_1_4[i - 769]?
  else if i < 1249 then tables_1_5[i - 1009]?
  else if i < 1350 then tables_1_6[i - 1249]?
  else none
theorem ztb_in {i : Nat} {w : Jvm.Cond} (h : ztb i = some w) : w ∈ lw_tbl := by
  have hs : ∀ (L : List (MethodName × Nat)) (j : Nat), (∀ q ∈ L, q ∈ lw_privs) → (L[j]?).map (fun q => Jvm.Cond.selects q.1.cls q.1 q.1) = some w → w ∈ lw_tbl := by
    intro L j hL hj
    cases hq : L[j]? with
    | none => rw [hq] at hj; cases hj
    | some q =>
      rw [hq] at hj
      cases hj
      exact List.mem_append_left _ (List.mem_map.mpr ⟨q, hL q (List.mem_of_getElem? hq), rfl⟩)
  unfold ztb at h
  split at h
  · exact hs _ _ (fun q hq => List.mem_append_left _ hq) h
  split at h
  · exact hs _ _ (fun q hq => List.mem_append_right _ (List.mem_append_left _ hq)) h
  split at h
  · exact hs _ _ (fun q hq => List.mem_append_right _ (List.mem_append_right _ (List.mem_append_left _ hq))) h
  split at h
  · exact hs _ _ (fun q hq => List.mem_append_right _ (List.mem_append_right _ (List.mem_append_right _ hq))) h
  split at h
  · exact List.mem_append_right _ (List.mem_append_left _ (List.mem_of_getElem? h))
  split at h
  · exact List.mem_append_right _ (List.mem_append_right _ (List.mem_append_left _ (List.mem_of_getElem? h)))
  split at h
  · exact List.mem_append_right _ (List.mem_append_right _ (List.mem_append_right _ (List.mem_append_left _ (List.mem_of_getElem? h))))
  split at h
  · exact List.mem_append_right _ (List.mem_append_right _ (List.mem_append_right _ (List.mem_append_right _ (List.mem_append_left _ (List.mem_of_getElem? h)))))
  split at h
  · exact List.mem_append_right _ (List.mem_append_right _ (List.mem_append_right _ (List.mem_append_right _ (List.mem_append_right _ (List.mem_append_left _ (List.mem_of_getElem? h))))))
  split at h
  · exact List.mem_append_right _ (List.mem_append_right _ (List.mem_append_right _ (List.mem_append_right _ (List.mem_append_right _ (List.mem_append_right _ (List.mem_of_getElem? h))))))
  · cases h
def zrow (μ j : Nat) : Nat := (zmt.getD μ []).getD j 0
def zcy (w : Option Jvm.Cond) : MethodName := match w with
  | some (.code y _ _ _) => y
  | _ => ⟨"", "", ""⟩
def zcc (w : Option Jvm.Cond) : ByteArray := match w with
  | some (.code _ c _ _) => c
  | _ => ⟨#[]⟩
def zcm (w : Option Jvm.Cond) : Nat := match w with
  | some (.code _ _ n _) => n
  | _ => 0
def zcr (w : Option Jvm.Cond) : Option FieldType := match w with
  | some (.code _ _ _ r) => r
  | _ => none
def zy (μ : Nat) : MethodName := zcy (ztb (zrow μ 2))
def zcode (μ : Nat) : ByteArray := zcc (ztb (zrow μ 2))
def zmaxL (μ : Nat) : Nat := zcm (ztb (zrow μ 2))
def zret (μ : Nat) : Option FieldType := zcr (ztb (zrow μ 2))
def zrk (μ : Nat) : Nat := zrow μ 0
def zblk (μ pc : Nat) : List zIns := ((zcd.getD μ []).lookup pc).getD []
def znol (v : zV) : zV := match v with
  | .inr (.inl _) => zN
  | v => v
/-- a store into the locals: a long that lay across the place is gone -/
def zset : List zV → Nat → zV → List zV
  | [], _, _ => []
  | _ :: l, 0, v => v :: l
  | a :: l, n + 1, v => (match n with
    | 0 => znol a
    | _ + 1 => a) :: zset l n v
def zset2 (l : List zV) (n : Nat) (v : zV) : List zV := (zset l n v).set (n + 1) zN
def zini : List zV → List zV
  | [] => []
  | .inr (.inl x) :: l => zL x :: zN :: zini l
  | v :: l => v :: zini l
/-- how many cells and slots a constructor makes; all others make none -/
def zalT : List (Nat × Nat × Nat) := [(m_be_init, 6, 90), (m_hi_init, 25, 120), (m_la_init, 2, 12), (m_nu_init, 10, 134), (m_pa_init, 3, 22), (m_sh_init, 13, 87), (m_ta_init, 7, 2638), (m_tu_init, 10, 224), (m_lt_init, 111, 3621), (m_mo_init, 27, 27354)]
def zal (μ : Nat) (a : List zV) : Nat × Nat := if μ = m_ro_init then (1, match a with
  | _ :: .inl x :: _ => x.toNat
  | _ => 0) else (zalT.lookup μ).getD (0, 0)
def zpu (v : zV) (S : zMS) (k : zMS → Prop) : Prop := k (S.1, v :: S.2.1, S.2.2)
def zldI (i : Nat) (S : zMS) (k : zMS → Prop) : Prop := match S.1.getD i zN with
  | .inl x => k (S.1, zI x :: S.2.1, S.2.2)
  | _ => False
def zldL (i : Nat) (S : zMS) (k : zMS → Prop) : Prop := match S.1.getD i zN with
  | .inr (.inl x) => k (S.1, zL x :: S.2.1, S.2.2)
  | _ => False
def zldR (i : Nat) (S : zMS) (k : zMS → Prop) : Prop := match S.1.getD i zN with
  | .inr (.inr (.inl x)) => k (S.1, zR x :: S.2.1, S.2.2)
  | _ => False
def zstI (i : Nat) (S : zMS) (k : zMS → Prop) : Prop := match S.2.1 with
  | .inl x :: st => k (zset S.1 i (zI x), st, S.2.2)
  | _ => False
def zstL (i : Nat) (S : zMS) (k : zMS → Prop) : Prop := match S.2.1 with
  | .inr (.inl x) :: st => k (zset2 S.1 i (zL x), st, S.2.2)
  | _ => False
def zstR (i : Nat) (S : zMS) (k : zMS → Prop) : Prop := match S.2.1 with
  | .inr (.inr (.inl x)) :: st => k (zset S.1 i (zR x), st, S.2.2)
  | _ => False
def zinc (i : Nat) (n : Int) (S : zMS) (k : zMS → Prop) : Prop := match S.1.getD i zN with
  | .inl x => k (zset S.1 i (zI (zwr (x + n))), S.2.1, S.2.2)
  | _ => False
def zun (f : Int → Int) (S : zMS) (k : zMS → Prop) : Prop := match S.2.1 with
  | .inl x :: st => k (S.1, zI (f x) :: st, S.2.2)
  | _ => False
def zbin (f : Int → Int → Int) (S : zMS) (k : zMS → Prop) : Prop := match S.2.1 with
  | .inl y :: .inl x :: st => k (S.1, zI (f x y) :: st, S.2.2)
  | _ => False
def zbinN (f : Int → Int → Int) (S : zMS) (k : zMS → Prop) : Prop := match S.2.1 with
  | .inl y :: .inl x :: st => zck (y ≠ 0) (k (S.1, zI (f x y) :: st, S.2.2))
  | _ => False
def zlbin (f : Int → Int → Int) (S : zMS) (k : zMS → Prop) : Prop := match S.2.1 with
  | .inr (.inl y) :: .inr (.inl x) :: st => k (S.1, zL (f x y) :: st, S.2.2)
  | _ => False
def zlbinN (f : Int → Int → Int) (S : zMS) (k : zMS → Prop) : Prop := match S.2.1 with
  | .inr (.inl y) :: .inr (.inl x) :: st => zck (y ≠ 0) (k (S.1, zL (f x y) :: st, S.2.2))
  | _ => False
def zlcm (S : zMS) (k : zMS → Prop) : Prop := match S.2.1 with
  | .inr (.inl y) :: .inr (.inl x) :: st => k (S.1, zI (zcmp x y) :: st, S.2.2)
  | _ => False
def zlng (S : zMS) (k : zMS → Prop) : Prop := match S.2.1 with
  | .inr (.inl x) :: st => k (S.1, zL (zwl (-x)) :: st, S.2.2)
  | _ => False
def zi2l (S : zMS) (k : zMS → Prop) : Prop := match S.2.1 with
  | .inl x :: st => k (S.1, zL x :: st, S.2.2)
  | _ => False
def zis1 (v : zV) : Bool := match v with
  | .inl _ => true
  | .inr (.inr (.inl _)) => true
  | _ => false
def zdup (S : zMS) (k : zMS → Prop) : Prop := match S.2.1 with
  | .inl x :: st => k (S.1, zI x :: zI x :: st, S.2.2)
  | .inr (.inr (.inl x)) :: st => k (S.1, zR x :: zR x :: st, S.2.2)
  | _ => False
def zdu2 (S : zMS) (k : zMS → Prop) : Prop := match S.2.1 with
  | .inl x :: .inr (.inr (.inl y)) :: st => k (S.1, zI x :: zR y :: zI x :: zR y :: st, S.2.2)
  | _ => False
def zpop (S : zMS) (k : zMS → Prop) : Prop := match S.2.1 with
  | .inl _ :: st => k (S.1, st, S.2.2)
  | .inr (.inr (.inl _)) :: st => k (S.1, st, S.2.2)
  | _ => False
/-- a boolean -/
def zbl (x : Int) (k : Int → Prop) : Prop := if x = 0 then k 0 else if x = 1 then k 1 else False
def zgf (ci j ty : Nat) (S : zMS) (k : zMS → Prop) : Prop := match S.2.1 with
  | .inr (.inr (.inl r)) :: st => zkq (zkd S.2.2.1 r) ci (match ty with
    | 2 => zom (zrf S.2.2.1 r j) (fun q => k (S.1, zR q :: st, S.2.2))
    | _ => k (S.1, zI (S.2.2.2.1 r j) :: st, S.2.2))
  | _ => False
def zpf (ci j ty : Nat) (S : zMS) (k : zMS → Prop) : Prop := match ty with
  | 0 => (match S.2.1 with
    | .inl x :: .inr (.inr (.inl r)) :: st => zkq (zkd S.2.2.1 r) ci (k (S.1, st, S.2.2.1, zmu S.2.2.2.1 r j x, S.2.2.2.2))
    | _ => False)
  | 1 => (match S.2.1 with
    | .inl x :: .inr (.inr (.inl r)) :: st => zkq (zkd S.2.2.1 r) ci (zbl x (fun x => k (S.1, st, S.2.2.1, zmu S.2.2.2.1 r j x, S.2.2.2.2)))
    | _ => False)
  | _ => (match S.2.1 with
    | .inr (.inr (.inl q)) :: .inr (.inr (.inl r)) :: st => zkq (zkd S.2.2.1 r) ci (k (S.1, st, zsr S.2.2.1 r j q, S.2.2.2.1, S.2.2.2.2))
    | _ => False)
def zix (σ : zSh) (t a : Nat) (i : Int) (k : Prop) : Prop := zkq (zkd σ a) t (zck (0 ≤ i ∧ i < zln σ a) k)
def zial (t : Nat) (S : zMS) (k : zMS → Prop) : Prop := match S.2.1 with
  | .inl i :: .inr (.inr (.inl a)) :: st => zix S.2.2.1 t a i (k (S.1, zI (S.2.2.2.1 a i.toNat) :: st, S.2.2))
  | _ => False
def zlal (S : zMS) (k : zMS → Prop) : Prop := match S.2.1 with
  | .inl i :: .inr (.inr (.inl a)) :: st => zix S.2.2.1 22 a i (k (S.1, zL (S.2.2.2.2 a i.toNat) :: st, S.2.2))
  | _ => False
def zaal (t : Nat) (S : zMS) (k : zMS → Prop) : Prop := match S.2.1 with
  | .inl i :: .inr (.inr (.inl a)) :: st => zix S.2.2.1 t a i (zom (zrf S.2.2.1 a i.toNat) (fun q => k (S.1, zR q :: st, S.2.2)))
  | _ => False
def zias (S : zMS) (k : zMS → Prop) : Prop := match S.2.1 with
  | .inl x :: .inl i :: .inr (.inr (.inl a)) :: st => zix S.2.2.1 20 a i (k (S.1, st, S.2.2.1, zmu S.2.2.2.1 a i.toNat x, S.2.2.2.2))
  | _ => False
def zbas (S : zMS) (k : zMS → Prop) : Prop := match S.2.1 with
  | .inl x :: .inl i :: .inr (.inr (.inl a)) :: st => zix S.2.2.1 21 a i (zbl x (fun x => k (S.1, st, S.2.2.1, zmu S.2.2.2.1 a i.toNat x, S.2.2.2.2)))
  | _ => False
def zlas (S : zMS) (k : zMS → Prop) : Prop := match S.2.1 with
  | .inr (.inl x) :: .inl i :: .inr (.inr (.inl a)) :: st => zix S.2.2.1 22 a i (k (S.1, st, S.2.2.1, S.2.2.2.1, zmu S.2.2.2.2 a i.toNat x))
  | _ => False
def zaas (t : Nat) (S : zMS) (k : zMS → Prop) : Prop := match S.2.1 with
  | .inr (.inr (.inl q)) :: .inl i :: .inr (.inr (.inl a)) :: st => zix S.2.2.1 t a i (zkq (zkd S.2.2.1 q) (if t = 23 then 2 else 5) (k (S.1, st, zsr S.2.2.1 a i.toNat q, S.2.2.2.1, S.2.2.2.2)))
  | _ => False
def zale (S : zMS) (k : zMS → Prop) : Prop := match S.2.1 with
  | .inr (.inr (.inl a)) :: st => zkb (Nat.ble 20 (zkd S.2.2.1 a) && Nat.ble (zkd S.2.2.1 a) 24) (k (S.1, zI (zln S.2.2.1 a) :: st, S.2.2))
  | _ => False
/-- what a method may make: cells and slots at its start, cells and slots that it makes -/
abbrev zB : Type := Nat × Nat × Nat × Nat
def znew (b : zB) (ci n : Nat) (S : zMS) (k : zMS → Prop) : Prop :=
  zck (S.2.2.1.length + 1 ≤ b.1 + b.2.2.1 ∧ zsz S.2.2.1 + n ≤ b.2.1 + b.2.2.2) (k (S.1, zR S.2.2.1.length :: S.2.1, S.2.2.1 ++ [(ci, 0, List.replicate n none)], zmz S.2.2.2.1 S.2.2.1.length, S.2.2.2.2))
def znwa (b : zB) (t : Nat) (S : zMS) (k : zMS → Prop) : Prop := match S.2.1 with
  | .inl x :: st => zck (0 ≤ x ∧ x ≤ 20000) (zck (S.2.2.1.length + 1 ≤ b.1 + b.2.2.1 ∧ zsz S.2.2.1 + x.toNat ≤ b.2.1 + b.2.2.2) (k (S.1, zR S.2.2.1.length :: st, S.2.2.1 ++ [(t, x.toNat, if 23 ≤ t then List.replicate x.toNat none else [])], zmz S.2.2.2.1 S.2.2.1.length, zmz S.2.2.2.2 S.2.2.1.length)))
  | _ => False
def zcat : List zV → Nat
  | [] => 0
  | .inr (.inl _) :: l => 2 + zcat l
  | _ :: l => 1 + zcat l
def zob8 (st : List zV) (k : Prop) : Prop := zkb (Nat.ble (zcat st) 8) k
def zobj (S : zMS) (k : zMS → Prop) : Prop := match S.2.1 with
  | .inr (.inr (.inl _)) :: st => zob8 st (k (S.1, st, S.2.2))
  | _ => False
def zmm (f : Int → Int → Int) (S : zMS) (k : zMS → Prop) : Prop := match S.2.1 with
  | .inl y :: .inl x :: st => zob8 st (k (S.1, zI (f x y) :: st, S.2.2))
  | _ => False
abbrev zCT : Type := Nat → List zV → zW → (Int → zW → Prop) → Prop
def zrcv (σ : zSh) (kind ci : Nat) (a : List zV) (k : Prop) : Prop := match kind with
  | 1 => k
  | 3 => k
  | 0 => (match a with
    | .inr (.inr (.inl r)) :: _ => zkq (zkd σ r) ci k
    | _ => False)
  | _ => (match a with
    | .inr (.inr (.inl _)) :: _ => k
    | _ => False)
def zbud (b : zB) (n : Nat × Nat) (σ : zSh) (k : Prop) : Prop := match n.1 with
  | 0 => k
  | _ + 1 => zck (σ.length + n.1 ≤ b.1 + b.2.2.1 ∧ zsz σ + n.2 ≤ b.2.1 + b.2.2.2) k
/-- a call: the callee, the word's place, kind of call, how many values, kind of answer, class -/
def zcal (b : zB) (C : zCT) (μ kind n rk ci : Nat) (S : zMS) (k : zMS → Prop) : Prop :=
  zrcv S.2.2.1 kind ci (S.2.1.take n).reverse (zkb (Nat.ble n S.2.1.length && Nat.ble (zcat (S.2.1.drop n)) 8) (zbud b (zal μ (S.2.1.take n).reverse) S.2.2.1 (match rk with
    | 0 => C μ (S.2.1.take n).reverse S.2.2 (fun _ w => k (S.1, S.2.1.drop n, w))
    | 2 => C μ (S.2.1.take n).reverse S.2.2 (fun r w => k (S.1, zL r :: S.2.1.drop n, w))
    | 3 => C μ (S.2.1.take n).reverse S.2.2 (fun r w => k (S.1, zR r.toNat :: S.2.1.drop n, w))
    | _ => C μ (S.2.1.take n).reverse S.2.2 (fun r w => k (S.1, zI r :: S.2.1.drop n, w)))))
def zif (c : ClassFile.Cond) (x y : Int) (a b : Prop) : Prop := match c with
  | .eq => if x = y then a else b
  | .ne => if x = y then b else a
  | .lt => if x < y then a else b
  | .ge => if x < y then b else a
  | .gt => if y < x then a else b
  | .le => if y < x then b else a
def ztsw (J : Nat → Prop) (pc : Nat) (x : Int) (dflt : Int) : Int → List Int → Prop
  | _, [] => J (pc + dflt).toNat
  | lo, o :: os => if x = lo then J (pc + o).toNat else ztsw J pc x dflt (lo + 1) os
def zsop (b : zB) (i : zIns) (S : zMS) (k : zMS → Prop) : Prop := match i.1 with
  | .iconst n => zpu (zI n) S k
  | .bipush n => zpu (zI n) S k
  | .sipush n => zpu (zI n) S k
  | .lconst n => zpu (zL ((n : Nat) : Int)) S k
  | .ldc _ => zpu (zI ((i.2.getD 0 0 : Nat) : Int)) S k
  | .ldc_w _ => zpu (zI ((i.2.getD 0 0 : Nat) : Int)) S k
  | .ldc2_w _ => zpu (zL ((i.2.getD 0 0 : Nat) : Int)) S k
  | .iload n => zldI n S k
  | .iload_n n => zldI (n : Nat) S k
  | .lload n => zldL n S k
  | .lload_n n => zldL (n : Nat) S k
  | .aload n => zldR n S k
  | .aload_n n => zldR (n : Nat) S k
  | .istore n => zstI n S k
  | .istore_n n => zstI (n : Nat) S k
  | .lstore n => zstL n S k
  | .lstore_n n => zstL (n : Nat) S k
  | .astore n => zstR n S k
  | .astore_n n => zstR (n : Nat) S k
  | .iinc n d => zinc n d S k
  | .iadd => zbin (fun x y => zwr (x + y)) S k
  | .isub => zbin (fun x y => zwr (x - y)) S k
  | .imul => zbin (fun x y => zwr (x * y)) S k
  | .iand => zbin zand S k
  | .ior => zbin zor S k
  | .ixor => zbin zxor S k
  | .ishl => zbin zshl S k
  | .ishr => zbin zshr S k
  | .iushr => zbin zushr S k
  | .idiv => zbinN zdiv S k
  | .irem => zbinN zrem S k
  | .ineg => zun (fun x => zwr (-x)) S k
  | .ladd => zlbin (fun x y => zwl (x + y)) S k
  | .lsub => zlbin (fun x y => zwl (x - y)) S k
  | .lmul => zlbin (fun x y => zwl (x * y)) S k
  | .ldiv => zlbinN zldiv S k
  | .lrem => zlbinN zlrem S k
  | .lneg => zlng S k
  | .lcmp => zlcm S k
  | .i2l => zi2l S k
  | .dup => zdup S k
  | .dup2 => zdu2 S k
  | .pop => zpop S k
  | .getfield _ => zgf (i.2.getD 0 0) (i.2.getD 1 0) (i.2.getD 3 0) S k
  | .putfield _ => zpf (i.2.getD 0 0) (i.2.getD 1 0) (i.2.getD 3 0) S k
  | .iaload => zial 20 S k
  | .baload => zial 21 S k
  | .laload => zlal S k
  | .aaload => zaal (i.2.getD 0 0) S k
  | .iastore => zias S k
  | .bastore => zbas S k
  | .lastore => zlas S k
  | .aastore => zaas (i.2.getD 0 0) S k
  | .arraylength => zale S k
  | .new _ => znew b (i.2.getD 0 0) (i.2.getD 2 0) S k
  | .newarray _ => znwa b (i.2.getD 0 0) S k
  | .anewarray _ => znwa b (i.2.getD 0 0) S k
  | _ => False
def zlen (i : Instr) : Nat := match i with
  | .bipush _ => 2
  | .sipush _ => 3
  | .ldc _ => 2
  | .ldc_w _ => 3
  | .ldc2_w _ => 3
  | .iload _ => 2
  | .lload _ => 2
  | .aload _ => 2
  | .istore _ => 2
  | .lstore _ => 2
  | .astore _ => 2
  | .iinc _ _ => 3
  | .getfield _ => 3
  | .putfield _ => 3
  | .new _ => 3
  | .newarray _ => 2
  | .anewarray _ => 3
  | .goto _ => 3
  | .ifCond _ _ => 3
  | .if_icmp _ _ => 3
  | .invokevirtual _ => 3
  | .invokestatic _ => 3
  | .invokespecial _ => 3
  | .tableswitch _ _ _ _ => 33
  | _ => 1
def zend (b : zB) (S : zMS) (k : Prop) : Prop := match b.2.2.1 with
  | 0 => k
  | _ + 1 => zck (S.2.2.1.length = b.1 + b.2.2.1 ∧ zsz S.2.2.1 = b.2.1 + b.2.2.2) k
/-- a stretch of code: C what calls do, J what is behind a jump, Q the method's end -/
def zbr (b : zB) (C : zCT) (J : Nat → zMS → Prop) (Q : Int → zW → Prop) (rk : Nat) : List zIns → Nat → zMS → Prop
  | [], pc, S => J pc S
  | i :: is, pc, S => match i.1 with
    | .goto _ => J (i.2.getD 0 0) S
    | .ifCond c _ => (match S.2.1 with
      | .inl x :: st => zif c x 0 (J (i.2.getD 0 0) (S.1, st, S.2.2)) (zbr b C J Q rk is (pc + 3) (S.1, st, S.2.2))
      | _ => False)
    | .if_icmp c _ => (match S.2.1 with
      | .inl y :: .inl x :: st => zif c x y (J (i.2.getD 0 0) (S.1, st, S.2.2)) (zbr b C J Q rk is (pc + 3) (S.1, st, S.2.2))
      | _ => False)
    | .tableswitch d lo _ offs => (match S.2.1 with
      | .inl x :: st => ztsw (fun t => J t (S.1, st, S.2.2)) pc x d lo offs.toList
      | _ => False)
    | .ireturn => (match S.2.1 with
      | [.inl x] => (match rk with
        | 1 => zend b S (Q x S.2.2)
        | 4 => zend b S (zbl x (fun x => Q x S.2.2))
        | _ => False)
      | _ => False)
    | .lreturn => (match S.2.1 with
      | [.inr (.inl x)] => (match rk with
        | 2 => zend b S (Q x S.2.2)
        | _ => False)
      | _ => False)
    | .areturn => (match S.2.1 with
      | [.inr (.inr (.inl x))] => (match rk with
        | 3 => zend b S (Q (x : Int) S.2.2)
        | _ => False)
      | _ => False)
    | .return_ => (match S.2.1 with
      | [] => (match rk with
        | 0 => zend b S (Q 0 S.2.2)
        | _ => False)
      | _ => False)
    | .invokevirtual _ => zcal b C (i.2.getD 0 0) (i.2.getD 2 0) (i.2.getD 3 0) (i.2.getD 4 0) (i.2.getD 5 0) S (fun S => zbr b C J Q rk is (pc + 3) S)
    | .invokestatic _ => (match i.2.getD 2 0 with
      | 6 => zmm zmax S (fun S => zbr b C J Q rk is (pc + 3) S)
      | 7 => zmm zmin S (fun S => zbr b C J Q rk is (pc + 3) S)
      | _ => zcal b C (i.2.getD 0 0) (i.2.getD 2 0) (i.2.getD 3 0) (i.2.getD 4 0) (i.2.getD 5 0) S (fun S => zbr b C J Q rk is (pc + 3) S))
    | .invokespecial _ => (match i.2.getD 2 0 with
      | 5 => zobj S (fun S => zbr b C J Q rk is (pc + 3) S)
      | _ => zcal b C (i.2.getD 0 0) (i.2.getD 2 0) (i.2.getD 3 0) (i.2.getD 4 0) (i.2.getD 5 0) S (fun S => zbr b C J Q rk is (pc + 3) S))
    | _ => zsop b i S (fun S => zbr b C J Q rk is (pc + zlen i.1) S)
/-- many stretches, up to the cuts -/
def zJ (b : zB) (C : zCT) (E : Nat → zMS → Prop) (Q : Int → zW → Prop) (rk μ : Nat) (cuts : List Nat) : Nat → Nat → zMS → Prop
  | 0, pc, S => E pc S
  | n + 1, pc, S => if pc ∈ cuts then E pc S else zbr b C (zJ b C E Q rk μ cuts n) Q rk (zblk μ pc) pc S
