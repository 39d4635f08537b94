/-! THE PURE MACHINE: values, cells by (kind, number), a step that a program can run. A reference is (kind, number); the memory gives each cell's ints. -/
abbrev pm_V : Type := Int32 ⊕ (Int64 ⊕ (Nat × Nat))
abbrev pm_M : Type := (Nat → Nat → Nat → Int32) × Int64
abbrev pm_L : Type := List (Option pm_V)
abbrev pm_i (x : Int32) : pm_V := .inl x
abbrev pm_l (x : Int64) : pm_V := .inr (.inl x)
abbrev pm_r (t k : Nat) : pm_V := .inr (.inr (t, k))
/-- addresses, the formatter, the array classes -/
abbrev pm_E : Type := (Nat → Nat → Nat) × Value × (Nat → ClassId)
abbrev pm_S : Type := Nat × pm_L × List pm_V × pm_M
abbrev pm_R : Type := Option (List Prop × pm_S)
/-- own class, name, code, locals, return type, the instructions by their places, frames, locals' words -/
abbrev pm_MI : Type := Nat × MethodName × ByteArray × Nat × Option FieldType × List (Nat × Instr) × Nat × Nat
def pm_cv (E : pm_E) (v : pm_V) : Value := match v with
  | .inl x => .int x
  | .inr (.inl x) => .long x
  | .inr (.inr (t, k)) => if t = 54 then E.2.1 else .ref (E.1 t k)
def pm_set (M : pm_M) (t k : Nat) (f : Nat → Int32) : pm_M := (fun a b => if a = t ∧ b = k then f else M.1 a b, M.2)
/-- a kind: an object (class, fields: 0 int, 1 long, 2 a reference (kind, first number)), an array of ints (type, length), an array of references (type, length, kind, first number) -/
def pm_sh : Nat → Option ((Nat × List (Nat × Nat × Nat)) ⊕ ((Nat × Nat) ⊕ (Nat × Nat × Nat × Nat))) := fun t => match t with
  | 0 => some (.inl (5, [(2, 4, 0), (2, 4, 1), (2, 1, 0), (2, 2, 0), (2, 12, 0), (2, 21, 0), (2, 23, 0), (2, 3, 0), (0, 0, 0)]))
  | 1 => some (.inr (.inr (3, 2, 4, 2)))
  | 2 => some (.inr (.inl (0, 2)))
  | 3 => some (.inr (.inr (4, 4, 27, 0)))
  | 4 => some (.inl (4, [(0, 0, 0), (0, 0, 0), (0, 0, 0), (2, 5, 0), (2, 6, 0), (2, 7, 0), (2, 8, 0), (2, 9, 0), (2, 10, 0), (2, 11, 0)]))
  | 5 => some (.inr (.inl (0, 4)))
  | 6 => some (.inr (.inl (0, 16)))
  | 7 => some (.inr (.inl (0, 4)))
  | 8 => some (.inr (.inl (0, 4)))
  | 9 => some (.inr (.inl (0, 4)))
  | 10 => some (.inr (.inl (0, 6)))
  | 11 => some (.inr (.inl (0, 6)))
  | 12 => some (.inl (0, [(0, 0, 0), (0, 0, 0), (2, 13, 0), (2, 14, 0), (2, 15, 0), (2, 16, 0), (2, 17, 0), (2, 18, 0), (2, 19, 0), (2, 20, 0), (0, 0, 0)]))
  | 13 => some (.inr (.inl (0, 4)))
  | 14 => some (.inr (.inl (0, 4)))
  | 15 => some (.inr (.inl (0, 4)))
  | 16 => some (.inr (.inl (0, 16)))
  | 17 => some (.inr (.inl (0, 96)))
  | 18 => some (.inr (.inl (0, 96)))
  | 19 => some (.inr (.inl (0, 4)))
  | 20 => some (.inr (.inl (0, 16)))
  | 21 => some (.inl (2, [(2, 22, 0), (0, 0, 0), (0, 0, 0), (0, 0, 0), (0, 0, 0), (0, 0, 0)]))
  | 22 => some (.inr (.inl (1, 160)))
  | 23 => some (.inl (3, [(0, 0, 0), (0, 0, 0), (2, 24, 0), (0, 0, 0), (0, 0, 0), (2, 25, 0), (2, 26, 0)]))
  | 24 => some (.inr (.inl (0, 3)))
  | 25 => some (.inr (.inl (0, 4)))
  | 26 => some (.inr (.inl (0, 4)))
  | 27 => some (.inl (1, [(0, 0, 0), (0, 0, 0), (2, 28, 0)]))
  | 28 => some (.inr (.inl (0, 40)))
  | 29 => some (.inl (6, [(2, 30, 0), (2, 31, 0), (2, 32, 0), (0, 0, 0), (0, 0, 0), (2, 33, 0), (0, 0, 0), (0, 0, 0), (0, 0, 0), (0, 0, 0), (2, 34, 0), (0, 0, 0), (2, 35, 0), (0, 0, 0), (0, 0, 0), (0, 0, 0), (0, 0, 0), (0, 0, 0), (0, 0, 0), (0, 0, 0), (2, 36, 0), (0, 0, 0), (0, 0, 0), (2, 37, 0), (2, 38, 0), (0, 0, 0), (0, 0, 0), (1, 0, 0), (0, 0, 0), (0, 0, 0), (0, 0, 0), (2, 39, 0), (2, 40, 0), (2, 41, 0), (2, 42, 0), (0, 0, 0), (2, 43, 0)]))
  | 30 => some (.inr (.inl (0, 135)))
  | 31 => some (.inr (.inl (0, 45)))
  | 32 => some (.inr (.inl (2, 2)))
  | 33 => some (.inr (.inl (0, 45)))
  | 34 => some (.inr (.inl (0, 8)))
  | 35 => some (.inr (.inl (0, 160)))
  | 36 => some (.inr (.inl (0, 100)))
  | 37 => some (.inr (.inl (0, 4)))
  | 38 => some (.inr (.inl (0, 4)))
  | 39 => some (.inr (.inl (0, 16)))
  | 40 => some (.inr (.inl (0, 4)))
  | 41 => some (.inr (.inl (0, 4)))
  | 42 => some (.inr (.inl (0, 160)))
  | 43 => some (.inr (.inl (0, 45)))
  | _ => none
/-- how many cells there are of a kind -/
def pm_cnt : Nat → Nat := fun t => match t with
  | 4 => 4
  | 5 => 4
  | 6 => 4
  | 7 => 4
  | 8 => 4
  | 9 => 4
  | 10 => 4
  | 11 => 4
  | 27 => 4
  | 28 => 4
  | 50 => 1
  | 51 => 1
  | 52 => 7
  | 53 => 7
  | 54 => 1
  | t => if t < 44 then 1 else 0
def pm_okv (v : pm_V) : Prop := match v with
  | .inr (.inr (t, k)) => k < pm_cnt t
  | _ => True
def pm_all : List Prop → Prop
  | [] => True
  | p :: ps => p ∧ pm_all ps
theorem pm_all_app {a b : List Prop} (h : pm_all (a ++ b)) : pm_all a ∧ pm_all b := by
  induction a with
  | nil => exact ⟨trivial, h⟩
  | cons p ps ih => exact ⟨⟨h.1, (ih h.2).1⟩, (ih h.2).2⟩
/-- how long an instruction is -/
def pm_len (pc : Nat) (i : Instr) : Nat := match i with
  | .bipush _ => 2
  | .iload _ => 2
  | .lload _ => 2
  | .aload _ => 2
  | .istore _ => 2
  | .lstore _ => 2
  | .astore _ => 2
  | .ldc _ => 2
  | .newarray _ => 2
  | .sipush _ => 3
  | .iinc _ _ => 3
  | .goto _ => 3
  | .ifCond _ _ => 3
  | .if_icmp _ _ => 3
  | .getfield _ => 3
  | .putfield _ => 3
  | .getstatic _ => 3
  | .invokevirtual _ => 3
  | .invokespecial _ => 3
  | .invokestatic _ => 3
  | .ldc_w _ => 3
  | .ldc2_w _ => 3
  | .new _ => 3
  | .anewarray _ => 3
  | .tableswitch _ _ _ offs => 1 + (3 - pc % 4) + 12 + 4 * offs.size
  | .lookupswitch _ ps => 1 + (3 - pc % 4) + 8 + 8 * ps.size
  | _ => 1
-- locals
def pm_clr (ls : pm_L) (k : Nat) : pm_L := match k with
  | 0 => ls
  | j + 1 => match ls[j]? with
    | some (some (.inr (.inl _))) => ls.set j none
    | _ => ls
def pm_st1 (ls : pm_L) (k : Nat) (v : pm_V) : pm_L := (pm_clr ls k).set k (some v)
def pm_st2 (ls : pm_L) (k : Nat) (v : pm_V) : pm_L := ((pm_clr ls k).set k (some v)).set (k + 1) none
def pm_ldi (ls : pm_L) (k : Nat) : Option pm_V := match ls[k]? with
  | some (some (.inl x)) => some (pm_i x)
  | _ => none
def pm_ldl (ls : pm_L) (k : Nat) : Option pm_V := match ls[k]? with
  | some (some (.inr (.inl x))) => some (pm_l x)
  | _ => none
def pm_lda (ls : pm_L) (k : Nat) : Option pm_V := match ls[k]? with
  | some (some (.inr (.inr (t, j)))) => if t = 54 then none else some (pm_r t j)
  | _ => none
-- families of steps
def pm_push (d pc : Nat) (ls : pm_L) (st : List pm_V) (M : pm_M) (v : Option pm_V) : pm_R := match v with
  | some v => some ([], pc + d, ls, v :: st, M)
  | none => none
def pm_sti (d pc : Nat) (ls : pm_L) (st : List pm_V) (M : pm_M) (k : Nat) : pm_R := match st with
  | .inl x :: r => if k < ls.length then some ([], pc + d, pm_st1 ls k (pm_i x), r, M) else none
  | _ => none
def pm_stl (d pc : Nat) (ls : pm_L) (st : List pm_V) (M : pm_M) (k : Nat) : pm_R := match st with
  | .inr (.inl x) :: r => if k + 1 < ls.length then some ([], pc + d, pm_st2 ls k (pm_l x), r, M) else none
  | _ => none
def pm_sta (d pc : Nat) (ls : pm_L) (st : List pm_V) (M : pm_M) (k : Nat) : pm_R := match st with
  | .inr (.inr (t, j)) :: r => if t = 54 then none else if k < ls.length then some ([], pc + d, pm_st1 ls k (pm_r t j), r, M) else none
  | _ => none
def pm_bi (pc : Nat) (ls : pm_L) (st : List pm_V) (M : pm_M) (f : Int32 → Int32 → Int32) : pm_R := match st with
  | .inl y :: .inl x :: r => some ([], pc + 1, ls, pm_i (f x y) :: r, M)
  | _ => none
def pm_bd (pc : Nat) (ls : pm_L) (st : List pm_V) (M : pm_M) (f : Int32 → Int32 → Int32) : pm_R := match st with
  | .inl y :: .inl x :: r => some ([¬ y = 0], pc + 1, ls, pm_i (f x y) :: r, M)
  | _ => none
def pm_bl (pc : Nat) (ls : pm_L) (st : List pm_V) (M : pm_M) (f : Int64 → Int64 → Int64) : pm_R := match st with
  | .inr (.inl y) :: .inr (.inl x) :: r => some ([], pc + 1, ls, pm_l (f x y) :: r, M)
  | _ => none
def pm_bld (pc : Nat) (ls : pm_L) (st : List pm_V) (M : pm_M) (f : Int64 → Int64 → Int64) : pm_R := match st with
  | .inr (.inl y) :: .inr (.inl x) :: r => some ([¬ y = 0], pc + 1, ls, pm_l (f x y) :: r, M)
  | _ => none
def pm_lcmp (pc : Nat) (ls : pm_L) (st : List pm_V) (M : pm_M) : pm_R := match st with
  | .inr (.inl y) :: .inr (.inl x) :: r => some ([], pc + 1, ls, pm_i (lg_cmp x y) :: r, M)
  | _ => none
def pm_ui (pc : Nat) (ls : pm_L) (st : List pm_V) (M : pm_M) (f : Int32 → pm_V) : pm_R := match st with
  | .inl x :: r => some ([], pc + 1, ls, f x :: r, M)
  | _ => none
def pm_ul (pc : Nat) (ls : pm_L) (st : List pm_V) (M : pm_M) (f : Int64 → pm_V) : pm_R := match st with
  | .inr (.inl x) :: r => some ([], pc + 1, ls, f x :: r, M)
  | _ => none
def pm_is1 (v : pm_V) : Bool := match v with
  | .inr (.inl _) => false
  | _ => true
def pm_dup (pc : Nat) (ls : pm_L) (st : List pm_V) (M : pm_M) : pm_R := match st with
  | v :: r => if pm_is1 v = true then some ([], pc + 1, ls, v :: v :: r, M) else none
  | _ => none
def pm_dup2 (pc : Nat) (ls : pm_L) (st : List pm_V) (M : pm_M) : pm_R := match st with
  | v :: w :: r => if (pm_is1 v && pm_is1 w) = true then some ([], pc + 1, ls, v :: w :: v :: w :: r, M) else none
  | _ => none
def pm_pop (pc : Nat) (ls : pm_L) (st : List pm_V) (M : pm_M) : pm_R := match st with
  | v :: r => if pm_is1 v = true then some ([], pc + 1, ls, r, M) else none
  | _ => none
def pm_tg (pc : Nat) (off : Int) : Nat := ((pc : Int) + off).toNat
def pm_if (pc : Nat) (ls : pm_L) (st : List pm_V) (M : pm_M) (off : Int) (f : Int32 → Nat → Nat → Nat) : pm_R := match st with
  | .inl x :: r => if 0 ≤ (pc : Int) + off then some ([], f x (pm_tg pc off) (pc + 3), ls, r, M) else none
  | _ => none
def pm_ic2 (pc : Nat) (ls : pm_L) (st : List pm_V) (M : pm_M) (off : Int) (f : Int32 → Int32 → Nat → Nat → Nat) : pm_R := match st with
  | .inl y :: .inl x :: r => if 0 ≤ (pc : Int) + off then some ([], f x y (pm_tg pc off) (pc + 3), ls, r, M) else none
  | _ => none
/-- a field that a program reads -/
def pm_gf (o idx t k : Nat) (M : pm_M) : Option pm_V := match pm_fl o idx with
  | some (ci, kf) => match pm_sh t with
    | some (.inl (cj, fs)) => if ci = cj then match fs[kf]? with
        | some (0, _, _) => some (pm_i (M.1 t k kf))
        | some (1, _, _) => some (pm_l M.2)
        | some (2, t', b) => some (pm_r t' (k + b))
        | _ => none
      else none
    | _ => none
  | none => if o = 8 ∧ t = 52 then (if idx = 9 then some (pm_r 53 k) else if idx = 15 then some (pm_i 0) else none) else none
def pm_pf (o idx t k : Nat) (v : pm_V) (M : pm_M) : Option pm_M := match pm_fl o idx with
  | some (ci, kf) => match pm_sh t with
    | some (.inl (cj, fs)) => if ci = cj then match fs[kf]?, v with
        | some (0, _, _), .inl x => some (pm_set M t k (upd (M.1 t k) kf x))
        | some (1, _, _), .inr (.inl x) => some (M.1, x)
        | _, _ => none
      else none
    | _ => none
  | none => none
def pm_ia (o t k : Nat) (i : Int32) (M : pm_M) : Option (Prop × Int32) := match pm_sh t with
  | some (.inr (.inl (0, n))) => some (vp_in i n, M.1 t k i.toNatClampNeg)
  | some _ => none
  | none => if t = 51 then some (vp_in i 96, pm_ORD i.toNatClampNeg) else if t = 50 ∧ o = 7 then some (vp_in i (M.1 49 0 0).toNatClampNeg, M.1 50 0 i.toNatClampNeg) else none
def pm_ba (t k : Nat) (i : Int32) (M : pm_M) : Option (Prop × Int32) := match pm_sh t with
  | some (.inr (.inl (1, n))) => some (vp_in i n, M.1 t k i.toNatClampNeg)
  | some (.inr (.inl (2, n))) => some (vp_in i n, M.1 t k i.toNatClampNeg)
  | some _ => none
  | none => if t = 53 then some (vp_in i (pm_slen.getD k 0), (pm_sby.getD k []).getD i.toNatClampNeg 0) else none
def pm_al (o t k : Nat) (M : pm_M) : Option Int32 := match pm_sh t with
  | some (.inr (.inl (_, n))) => some (Int32.ofNat n)
  | some (.inr (.inr (_, n, _, _))) => some (Int32.ofNat n)
  | some _ => none
  | none => if t = 51 then some 96 else if t = 53 then some (Int32.ofNat (pm_slen.getD k 0)) else if t = 50 ∧ o = 7 then some (M.1 49 0 0) else none
def pm_gs (o idx : Nat) : Option pm_V := if o = 0 ∧ idx = 87 then some (pm_r 51 0) else if o = 8 ∧ idx = 38 then some (pm_i 1) else if o = 8 ∧ idx = 1053 then some (pm_r 54 0) else none
def pm_ldc (o idx : Nat) : Option pm_V := match pm_ic o idx with
  | some v => some (pm_i v)
  | none => if o = 3 then (pm_six.findIdx? (fun j => j == idx)).map (fun j => pm_r 52 j) else none
/-- a step of an instruction that calls nothing: what must hold for it, and the next state -/
def pm_step (o : Nat) (i : Instr) (pc : Nat) (ls : pm_L) (st : List pm_V) (M : pm_M) : pm_R := match i with
  | .iconst z => some ([], pc + 1, ls, pm_i (Int32.ofInt z) :: st, M)
  | .bipush z => some ([], pc + 2, ls, pm_i (Int8.ofInt z).toInt32 :: st, M)
  | .sipush z => some ([], pc + 3, ls, pm_i (Int16.ofInt z).toInt32 :: st, M)
  | .lconst z => some ([], pc + 1, ls, pm_l (Int64.ofNat (z : Nat)) :: st, M)
  | .iload_n k => pm_push 1 pc ls st M (pm_ldi ls k)
  | .iload k => pm_push 2 pc ls st M (pm_ldi ls k)
  | .lload_n k => pm_push 1 pc ls st M (pm_ldl ls k)
  | .lload k => pm_push 2 pc ls st M (pm_ldl ls k)
  | .aload_n k => pm_push 1 pc ls st M (pm_lda ls k)
  | .aload k => pm_push 2 pc ls st M (pm_lda ls k)
  | .istore_n k => pm_sti 1 pc ls st M k
  | .istore k => pm_sti 2 pc ls st M k
  | .lstore_n k => pm_stl 1 pc ls st M k
  | .lstore k => pm_stl 2 pc ls st M k
  | .astore_n k => pm_sta 1 pc ls st M k
  | .astore k => pm_sta 2 pc ls st M k
  | .iinc k z => match ls[k]? with
    | some (some (.inl x)) => some ([], pc + 3, pm_st1 ls k (pm_i (x + Int32.ofInt z)), st, M)
    | _ => none
  | .iadd => pm_bi pc ls st M (fun x y => x + y)
  | .isub => pm_bi pc ls st M (fun x y => x - y)
  | .imul => pm_bi pc ls st M (fun x y => x * y)
  | .iand => pm_bi pc ls st M (fun x y => x &&& y)
  | .ior => pm_bi pc ls st M (fun x y => x ||| y)
  | .ishl => pm_bi pc ls st M (fun x y => x <<< (y &&& 31))
  | .ishr => pm_bi pc ls st M (fun x y => x >>> (y &&& 31))
  | .iushr => pm_bi pc ls st M (fun x y => (x.toUInt32 >>> (y.toUInt32 &&& Int32.toUInt32 31)).toInt32)
  | .idiv => pm_bd pc ls st M (fun x y => x / y)
  | .irem => pm_bd pc ls st M (fun x y => x - x / y * y)
  | .ladd => pm_bl pc ls st M (fun x y => x + y)
  | .lmul => pm_bl pc ls st M (fun x y => x * y)
  | .ldiv => pm_bld pc ls st M (fun x y => x / y)
  | .lrem => pm_bld pc ls st M (fun x y => x - x / y * y)
  | .lcmp => pm_lcmp pc ls st M
  | .ineg => pm_ui pc ls st M (fun x => pm_i (-x))
  | .i2l => pm_ui pc ls st M (fun x => pm_l x.toInt64)
  | .i2b => pm_ui pc ls st M (fun x => pm_i x.toInt8.toInt32)
  | .i2s => pm_ui pc ls st M (fun x => pm_i x.toInt16.toInt32)
  | .i2c => pm_ui pc ls st M (fun x => pm_i (x.toUInt32 % 65536).toInt32)
  | .lneg => pm_ul pc ls st M (fun x => pm_l (-x))
  | .dup => pm_dup pc ls st M
  | .dup2 => pm_dup2 pc ls st M
  | .pop => pm_pop pc ls st M
  | .goto off => if 0 ≤ (pc : Int) + off then some ([], pm_tg pc off, ls, st, M) else none
  | .ifCond .eq off => pm_if pc ls st M off (fun x a b => if x = 0 then a else b)
  | .ifCond .ne off => pm_if pc ls st M off (fun x a b => if x = 0 then b else a)
  | .ifCond .lt off => pm_if pc ls st M off (fun x a b => if x < 0 then a else b)
  | .ifCond .ge off => pm_if pc ls st M off (fun x a b => if 0 ≤ x then a else b)
  | .ifCond .gt off => pm_if pc ls st M off (fun x a b => if 0 < x then a else b)
  | .ifCond .le off => pm_if pc ls st M off (fun x a b => if x ≤ 0 then a else b)
  | .if_icmp .eq off => pm_ic2 pc ls st M off (fun x y a b => if x = y then a else b)
  | .if_icmp .ne off => pm_ic2 pc ls st M off (fun x y a b => if x = y then b else a)
  | .if_icmp .lt off => pm_ic2 pc ls st M off (fun x y a b => if x < y then a else b)
  | .if_icmp .ge off => pm_ic2 pc ls st M off (fun x y a b => if y ≤ x then a else b)
  | .if_icmp .gt off => pm_ic2 pc ls st M off (fun x y a b => if y < x then a else b)
  | .if_icmp .le off => pm_ic2 pc ls st M off (fun x y a b => if x ≤ y then a else b)
  | .getfield idx => match st with
    | .inr (.inr (t, k)) :: r => match pm_gf o idx t k M with
      | some v => some ([], pc + 3, ls, v :: r, M)
      | none => none
    | _ => none
  | .putfield idx => match st with
    | v :: .inr (.inr (t, k)) :: r => match pm_pf o idx t k v M with
      | some M' => some ([], pc + 3, ls, r, M')
      | none => none
    | _ => none
  | .getstatic idx => pm_push 3 pc ls st M (pm_gs o idx)
  | .ldc idx => pm_push 2 pc ls st M (pm_ldc o idx)
  | .ldc_w idx => pm_push 3 pc ls st M ((pm_ic o idx).map (fun x => pm_i x))
  | .ldc2_w idx => pm_push 3 pc ls st M ((pm_lc o idx).map (fun x => pm_l x))
  | .iaload => match st with
    | .inl i :: .inr (.inr (t, k)) :: r => match pm_ia o t k i M with
      | some (c, x) => some ([c], pc + 1, ls, pm_i x :: r, M)
      | none => none
    | _ => none
  | .baload => match st with
    | .inl i :: .inr (.inr (t, k)) :: r => match pm_ba t k i M with
      | some (c, x) => some ([c], pc + 1, ls, pm_i x :: r, M)
      | none => none
    | _ => none
  | .aaload => match st with
    | .inl i :: .inr (.inr (t, _)) :: r => match pm_sh t with
      | some (.inr (.inr (_, n, t', b))) => some ([vp_in i n], pc + 1, ls, pm_r t' (i.toNatClampNeg + b) :: r, M)
      | _ => none
    | _ => none
  | .iastore => match st with
    | .inl x :: .inl i :: .inr (.inr (t, k)) :: r => match pm_sh t with
      | some (.inr (.inl (0, n))) => some ([vp_in i n], pc + 1, ls, r, pm_set M t k (upd (M.1 t k) i.toNatClampNeg x))
      | _ => none
    | _ => none
  | .bastore => match st with
    | .inl x :: .inl i :: .inr (.inr (t, k)) :: r => match pm_sh t with
      | some (.inr (.inl (1, n))) => some ([vp_in i n], pc + 1, ls, r, pm_set M t k (upd (M.1 t k) i.toNatClampNeg (vp_nar .byte x)))
      | some (.inr (.inl (2, n))) => some ([vp_in i n], pc + 1, ls, r, pm_set M t k (upd (M.1 t k) i.toNatClampNeg (vp_nar .boolean x)))
      | _ => none
    | _ => none
  | .arraylength => match st with
    | .inr (.inr (t, k)) :: r => match pm_al o t k M with
      | some x => some ([], pc + 1, ls, pm_i x :: r, M)
      | none => none
    | _ => none
  | _ => none
def pm_tab (mi : pm_MI) (pc : Nat) : Option Instr := (mi.2.2.2.2.2.1.find? (fun e => e.1 == pc)).map (fun e => e.2)
/-- n steps, and what must hold for them -/
def pm_run (mi : pm_MI) : Nat → Nat → pm_L → List pm_V → pm_M → pm_R
  | 0, pc, ls, st, M => some ([], pc, ls, st, M)
  | n + 1, pc, ls, st, M => match pm_tab mi pc with
    | some i => match pm_step mi.1 i pc ls st M with
      | some (c, pc1, ls1, st1, M1) => match pm_run mi n pc1 ls1 st1 M1 with
        | some (c2, s2) => some (c ++ c2, s2)
        | none => none
      | none => none
    | none => none
