/-! What an instruction asks, and where it goes -/
def a_ld : aV → Nat → Option Value
  | [], _ => none
  | (j, v) :: r, i => match Nat.beq j i with
    | true => some v
    | false => a_ld r i
def a_ins (i : Nat) (v : Value) : aV → aV
  | [] => [(i, v)]
  | (j, w) :: r => match Nat.blt i j with
    | true => (i, v) :: (j, w) :: r
    | false => (j, w) :: a_ins i v r
def a_sto (i : Nat) (v : Value) (al : aV) : aV := a_ins i v (al.filter (fun q => !(q.1 == i)))
/-- a place may be written: no long reaches into it; w: how many places -/
def a_fr (al : aV) (i w : Nat) : Bool := al.all (fun q => !(q.1 + 1 == i && q.2.category == 2) && !(w == 2 && q.1 == i + 1))
def a_if (b : Bool) (P : Prop) : Prop := match b with
  | true => P
  | false => False
def a_vi (o : Option Value) (f : Int32 → Prop) : Prop := match o with
  | some (.int v) => f v
  | _ => False
def a_vr (o : Option Value) (f : Nat → Prop) : Prop := match o with
  | some (.ref v) => f v
  | _ => False
def a_vl (o : Option Value) (f : Int64 → Prop) : Prop := match o with
  | some (.long v) => f v
  | _ => False
def a_i1 (st : List Value) (f : Int32 → List Value → Prop) : Prop := match st with
  | .int x :: r => f x r
  | _ => False
def a_i2 (st : List Value) (f : Int32 → Int32 → List Value → Prop) : Prop := match st with
  | .int y :: .int x :: r => f x y r
  | _ => False
def a_r1 (st : List Value) (f : Nat → List Value → Prop) : Prop := match st with
  | .ref x :: r => f x r
  | _ => False
def a_l1 (st : List Value) (f : Int64 → List Value → Prop) : Prop := match st with
  | .long x :: r => f x r
  | _ => False
def a_l2 (st : List Value) (f : Int64 → Int64 → List Value → Prop) : Prop := match st with
  | .long y :: .long x :: r => f x y r
  | _ => False
/-- the cell i is an object of class ci -/
def a_ob (L : List aC) (i ci : Nat) (f : List Value → Prop) : Prop := match L[i]? with
  | some (.inl (c, fs)) => a_if (c == ci) (f fs)
  | _ => False
/-- the cell i is an array of kind t -/
def a_ar (L : List aC) (i : Nat) (f : Nat → Nat → Prop) : Prop := match L[i]? with
  | some (.inr (t, n)) => f t n
  | _ => False
def a_fd (fs : List Value) (k : Nat) (f : Value → Prop) : Prop := match fs[k]? with
  | some v => f v
  | none => False
def a_rd (σ : aS) (i k : Nat) (v : Value) : Value := match v with
  | .int _ => .int (σ i k)
  | v => v
/-- an array's place -/
def a_ix (j : Int32) (n : Nat) (f : Nat → Prop) : Prop := ∃ m : Nat, (m < n ∧ m < 2147483648 ∧ j = nI m) ∧ f m
def a_take : Nat → List Value → List Value → (List Value → List Value → Prop) → Prop
  | 0, st, acc, f => f acc st
  | n + 1, v :: st, acc, f => a_take n st (v :: acc) f
  | _ + 1, [], _, _ => False
def a_ps (r : Option Value) (st : List Value) : List Value := match r with
  | some v => v :: st
  | none => st
def a_cnt (q k : aM) (c s : Nat) (f : Nat → Nat → Prop) : Prop := match q.2.2.2.2.2 with
  | (0, 0) => f c s
  | (a, b) => (c + a ≤ k.2.2.2.2.2.1 ∧ s + b ≤ k.2.2.2.2.2.2) ∧ f (c + a) (s + b)
def a_bl (v : Int32) (P : Prop) : Prop := (v = 0 ∨ v = 1) ∧ P
def a_sw (J : Nat → Prop) (pc : Nat) (v : Int32) : Int → List Int → Prop
  | _, [] => True
  | a, o :: r => (v = Int32.ofInt a → J ((pc : Int) + o).toNat) ∧ a_sw J pc v (a + 1) r
/-- the texts' entries in FilingOrder's pool -/
def a_sx (j : Nat) : Nat := [181, 187, 189, 191, 193, 195, 197, 199, 201, 118].getD j 0
/-- who is called: kind 0 an object of class ci, 1 a list, 2 a text -/
def a_rc (L : List aC) (z : aZ) (kind ci : Nat) (as : List Value) (P : Prop) : Prop := match as with
  | .ref i :: _ => (match kind with
    | 0 => a_ob L i ci (fun _ => P)
    | 1 => (∃ j : Nat, i = 2000000 + j ∧ j < z.length) ∧ P
    | 2 => (∃ j : Nat, i = 1000000 + j ∧ j < 10) ∧ P
    | _ => False)
  | _ => False
def a_call (X : aX) (ad : Nat → Nat) (L : List aC) (k q : aM) (N : Nat → Nat → aS → aZ → aV → List Value → Prop) (c s : Nat) (σ : aS) (z : aZ) (al : aV) (as rest : List Value) : Prop :=
  a_if (Nat.ble (rest.map fun v => v.category).sum 8) (a_cnt q k c s (fun c' s' => a_Meets X ad L q σ z as (fun σ' z' r => N c' s' σ' z' al (a_ps r rest))))
def a_one (X : aX) (ad : Nat → Nat) (L : List aC) (k : aM) (K : aS → aZ → Option Value → Prop) (J : Nat → Nat → Nat → aS → aZ → aV → List Value → Prop) (N : Nat → Nat → aS → aZ → aV → List Value → Prop)
    (i : Instr) (a1 a2 a3 : Nat) (cv : Int32) (cal : Option aM) (pc c s : Nat) (σ : aS) (z : aZ) (al : aV) (st : List Value) : Prop := match i with
  | .iconst _ => N c s σ z al (.int cv :: st)
  | .bipush _ => N c s σ z al (.int cv :: st)
  | .sipush _ => N c s σ z al (.int cv :: st)
  | .lconst n => N c s σ z al (.long (Int64.ofNat n) :: st)
  | .iload_n _ => a_vi (a_ld al a1) (fun v => N c s σ z al (.int v :: st))
  | .iload _ => a_vi (a_ld al a1) (fun v => N c s σ z al (.int v :: st))
  | .aload_n _ => a_vr (a_ld al a1) (fun v => N c s σ z al (.ref v :: st))
  | .aload _ => a_vr (a_ld al a1) (fun v => N c s σ z al (.ref v :: st))
  | .lload _ => a_vl (a_ld al a1) (fun v => N c s σ z al (.long v :: st))
  | .istore_n _ => a_i1 st (fun v r => a_if (a_fr al a1 1) (N c s σ z (a_sto a1 (.int v) al) r))
  | .istore _ => a_i1 st (fun v r => a_if (a_fr al a1 1) (N c s σ z (a_sto a1 (.int v) al) r))
  | .astore_n _ => a_r1 st (fun v r => a_if (a_fr al a1 1) (N c s σ z (a_sto a1 (.ref v) al) r))
  | .astore _ => a_r1 st (fun v r => a_if (a_fr al a1 1) (N c s σ z (a_sto a1 (.ref v) al) r))
  | .lstore _ => a_l1 st (fun v r => a_if (a_fr al a1 2) (N c s σ z (a_sto a1 (.long v) al) r))
  | .iinc _ _ => a_vi (a_ld al a1) (fun v => a_if (a_fr al a1 1) (N c s σ z (a_sto a1 (.int (v + cv)) al) st))
  | .iadd => a_i2 st (fun a b r => N c s σ z al (.int (a + b) :: r))
  | .isub => a_i2 st (fun a b r => N c s σ z al (.int (a - b) :: r))
  | .imul => a_i2 st (fun a b r => N c s σ z al (.int (a * b) :: r))
  | .iand => a_i2 st (fun a b r => N c s σ z al (.int (a &&& b) :: r))
  | .idiv => a_i2 st (fun a b r => ¬ b = 0 ∧ N c s σ z al (.int (a / b) :: r))
  | .irem => a_i2 st (fun a b r => ¬ b = 0 ∧ N c s σ z al (.int (a - a / b * b) :: r))
  | .i2b => a_i1 st (fun a r => N c s σ z al (.int a.toInt8.toInt32 :: r))
  | .i2c => a_i1 st (fun a r => N c s σ z al (.int (a.toUInt32 % 65536).toInt32 :: r))
  | .i2l => a_i1 st (fun a r => N c s σ z al (.long a.toInt64 :: r))
  | .l2i => a_l1 st (fun a r => N c s σ z al (.int a.toInt32 :: r))
  | .ladd => a_l2 st (fun a b r => N c s σ z al (.long (a + b) :: r))
  | .lcmp => a_l2 st (fun a b r => N c s σ z al (.int (lg_cmp a b) :: r))
  | .dup => (match st with
    | .int v :: r => N c s σ z al (.int v :: .int v :: r)
    | .ref v :: r => N c s σ z al (.ref v :: .ref v :: r)
    | _ => False)
  | .pop => (match st with
    | .int _ :: r => N c s σ z al r
    | .ref _ :: r => N c s σ z al r
    | _ => False)
  | .ifCond cd _ => a_i1 st (fun a r => match cd with
    | .eq => (a = 0 → J a1 c s σ z al r) ∧ (¬ a = 0 → N c s σ z al r)
    | .ne => (¬ a = 0 → J a1 c s σ z al r) ∧ (a = 0 → N c s σ z al r)
    | .lt => (a < 0 → J a1 c s σ z al r) ∧ (¬ a < 0 → N c s σ z al r)
    | .ge => (0 ≤ a → J a1 c s σ z al r) ∧ (¬ 0 ≤ a → N c s σ z al r)
    | .gt => (0 < a → J a1 c s σ z al r) ∧ (¬ 0 < a → N c s σ z al r)
    | .le => (a ≤ 0 → J a1 c s σ z al r) ∧ (¬ a ≤ 0 → N c s σ z al r))
  | .if_icmp cd _ => a_i2 st (fun a b r => match cd with
    | .eq => (a = b → J a1 c s σ z al r) ∧ (¬ a = b → N c s σ z al r)
    | .ne => (¬ a = b → J a1 c s σ z al r) ∧ (a = b → N c s σ z al r)
    | .lt => (a < b → J a1 c s σ z al r) ∧ (¬ a < b → N c s σ z al r)
    | .ge => (b ≤ a → J a1 c s σ z al r) ∧ (¬ b ≤ a → N c s σ z al r)
    | .gt => (b < a → J a1 c s σ z al r) ∧ (¬ b < a → N c s σ z al r)
    | .le => (a ≤ b → J a1 c s σ z al r) ∧ (¬ a ≤ b → N c s σ z al r))
  | .goto _ => J a1 c s σ z al st
  | .tableswitch d lo hi offs => a_i1 st (fun a r => a_sw (fun t => J t c s σ z al r) pc a lo offs.toList ∧ ((a.toInt < lo ∨ hi < a.toInt) → J ((pc : Int) + d).toNat c s σ z al r))
  | .getfield _ => a_r1 st (fun i r => a_ob L i a1 (fun fs => a_fd fs a2 (fun v => N c s σ z al (a_rd σ i a2 v :: r))))
  | .putfield _ => (match st with
    | .int v :: .ref i :: r => a_ob L i a1 (fun fs => a_fd fs a2 (fun w => match w with
      | .int _ => (match a3 with
        | 0 => N c s (a_up σ i a2 v) z al r
        | _ => a_bl v (N c s (a_up σ i a2 v) z al r))
      | _ => False))
    | _ => False)
  | .arraylength => a_r1 st (fun i r => a_ar L i (fun t n => a_if (decide (t < 5)) (N c s σ z al (.int (nI n) :: r))))
  | .iaload => (match st with
    | .int j :: .ref i :: r => a_ar L i (fun t n => a_if (t == 2) (a_ix j n (fun m => N c s σ z al (.int (σ i m) :: r))))
    | _ => False)
  | .caload => (match st with
    | .int j :: .ref i :: r => a_ar L i (fun t n => a_if (t == 1) (a_ix j n (fun m => N c s σ z al (.int (σ i m) :: r))))
    | _ => False)
  | .baload => (match st with
    | .int j :: .ref i :: r => a_ar L i (fun t n => a_if (t == 0 || t == 3) (a_ix j n (fun m => N c s σ z al (.int (σ i m) :: r))))
    | _ => False)
  | .iastore => (match st with
    | .int v :: .int j :: .ref i :: r => a_ar L i (fun t n => a_if (t == 2) (a_ix j n (fun m => N c s (a_up σ i m v) z al r)))
    | _ => False)
  | .castore => (match st with
    | .int v :: .int j :: .ref i :: r => a_ar L i (fun t n => a_if (t == 1) (a_ix j n (fun m => N c s (a_up σ i m (vp_nar .char v)) z al r)))
    | _ => False)
  | .bastore => (match st with
    | .int v :: .int j :: .ref i :: r => a_ar L i (fun t n => match t with
      | 0 => a_ix j n (fun m => N c s (a_up σ i m (vp_nar .byte v)) z al r)
      | 3 => a_ix j n (fun m => N c s (a_up σ i m (vp_nar .boolean v)) z al r)
      | _ => False)
    | _ => False)
  | .ldc _ => N c s σ z al (.ref (1000000 + a1) :: st)
  | .checkcast _ => a_r1 st (fun i r => a_ob L i a1 (fun _ => N c s σ z al (.ref i :: r)))
  | .invokevirtual _ => (match cal with
    | some q => a_take (a1 + 1) st [] (fun as rest => a_rc L z a2 a3 as (a_call X ad L k q N c s σ z al as rest))
    | none => False)
  | .invokestatic _ => (match cal with
    | some q => a_take a1 st [] (fun as rest => a_call X ad L k q N c s σ z al as rest)
    | none => a_i2 st (fun a b r => a_if (Nat.ble (r.map fun v => v.category).sum 8) (N c s σ z al (.int (if b < a then b else a) :: r))))
  | .ireturn => (match st with
    | [.int v] => (match k.2.2.2.1 with
      | some .int => K σ z (some (.int v))
      | some .boolean => a_bl v (K σ z (some (.int v)))
      | _ => False)
    | _ => False)
  | .return_ => (match st with
    | [] => K σ z none
    | _ => False)
  | _ => False
def a_suf : List aI → Nat → Nat → List aI
  | [], _, _ => []
  | (i, len, a, cv, cal) :: r, p, t => match Nat.beq p t with
    | true => (i, len, a, cv, cal) :: r
    | false => a_suf r (p + len) t
def a_cut : List (Nat × List Nat) → Nat → Option (List Nat)
  | [], _ => none
  | (p, ks) :: r, t => match Nat.beq p t with
    | true => some ks
    | false => a_cut r t
def a_keep (ks : List Nat) (al : aV) : aV := al.filter (fun q => ks.contains q.1)
def a_run (X : aX) (ad : Nat → Nat) (L : List aC) (k : aM) (K : aS → aZ → Option Value → Prop) (AT : Nat → Nat → Nat → aS → aZ → aV → List Value → Prop) (cuts : List (Nat × List Nat)) (J : Nat → Nat → Nat → aS → aZ → aV → List Value → Prop) : List aI → Nat → Nat → Nat → aS → aZ → aV → List Value → Prop
  | [], _, _, _, _, _, _, _ => False
  | (i, len, (a1, a2, a3), cv, cal) :: l, pc, c, s, σ, z, al, st => a_one X ad L k K J (fun c s σ z al st => match a_cut cuts (pc + len) with
    | some ks => AT (pc + len) c s σ z (a_keep ks al) st
    | none => a_run X ad L k K AT cuts J l (pc + len) c s σ z al st) i a1 a2 a3 cv cal pc c s σ z al st
/-- through the jumps, but at the cuts -/
def a_jmp (X : aX) (ad : Nat → Nat) (L : List aC) (k : aM) (K : aS → aZ → Option Value → Prop) (code : List aI) (AT : Nat → Nat → Nat → aS → aZ → aV → List Value → Prop) (cuts : List (Nat × List Nat)) : Nat → Nat → Nat → Nat → aS → aZ → aV → List Value → Prop
  | 0, pc, c, s, σ, z, al, st => AT pc c s σ z al st
  | n + 1, pc, c, s, σ, z, al, st => match a_cut cuts pc with
    | some ks => AT pc c s σ z (a_keep ks al) st
    | none => a_run X ad L k K AT cuts (a_jmp X ad L k K code AT cuts n) (a_suf code 0 pc) pc c s σ z al st
