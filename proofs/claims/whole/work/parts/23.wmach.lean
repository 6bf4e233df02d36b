/-! A second machine: the world is a list of cells at their own addresses; cells may be made -/
abbrev bN : Type := Nat → Nat → va_W → aV → List Value → Prop
def b_okX (X : aX) : Prop :=
  (∀ s U : State, s.WarmedH U.vm → s.heap.size ≤ U.heap.size → (∀ q : Nat, q < s.heap.size → ¬ a_A X q → U.heap[q]? = s.heap[q]?) → X.2.2.2.2.1 s s.heap → X.2.2.2.2.1 U U.heap) ∧
  (∀ s : State, X.2.2.2.2.1 s s.heap → ∀ w ∈ lw_tbl, a_isN w = true → va_Nw w s) ∧
  (∀ s : State, X.2.2.2.2.1 s s.heap → va_AO "java/lang/Object" s ∧ va_Dc s)
def b_Pr (X : aX) (ws : va_W) (U : State) : Prop := X.2.2.2.1 ≤ U.heap.size ∧ va_K X.2.1 vwCl (a_tys X.2.2.1) U ∧ X.2.2.2.2.1 U U.heap ∧ va_P X.2.1 vwCl ws U.heap ∧ va_D (a_A X) ws
def b_Qc (X : aX) (K : va_W → Option Value → Prop) : Array Value → State → Outcome → State → Prop := fun _ st o t =>
  (∃ (ws : va_W) (r : Option Value), o = .returned r ∧ K ws r ∧ va_P X.2.1 vwCl ws t.heap ∧ va_D (a_A X) ws) ∧ va_F (a_A X) st t
def b_Meets (X : aX) (k : aM) (ws : va_W) (av : List Value) (K : va_W → Option Value → Prop) : Prop :=
  Met X.1 k.1 (a_wsM k) (a_rm k) (va_Pc av (b_Pr X ws)) (b_Qc X K) k.2.2.2.2.2.1 k.2.2.2.2.2.2 (a_A X)
/-- what stands outside, and never changes -/
def b_gs (X : aX) (j : String × String × String) (v : Value) : Prop := ∀ s : State, X.2.2.2.2.1 s s.heap → va_Z j.1 j.2.1 j.2.2 v (a_A X) s s.heap
def b_os (X : aX) (a : Nat) : Prop := ∀ s : State, X.2.2.2.2.1 s s.heap → va_O "java/lang/String" a (a_A X) s s.heap
def b_of (X : aX) (j : String × String) (v : Value) (a : Nat) : Prop := ∀ s : State, X.2.2.2.2.1 s s.heap → va_OF "java/lang/String" j.1 j.2 v a (a_A X) s s.heap
def b_ot (X : aX) (ty : FieldType) (a n : Nat) (f : Nat → Value) : Prop := ∀ s : State, X.2.2.2.2.1 s s.heap → va_T ty a n f (a_A X) s s.heap
def b_ox (X : aX) (a n : Nat) (xs : Nat → Int32) : Prop := ∀ s : State, X.2.2.2.2.1 s s.heap → va_X a n xs s s.heap ∧ a < s.heap.size ∧ ¬ a_A X a
def b_om (X : aX) (mi : Nat) : Prop := ∀ s : State, X.2.2.2.2.1 s s.heap → va_Mi "[Ljava/lang/Object;" mi s
def b_st (j : Nat) : String × String × String := match j with
  | 0 => ("java/lang/String", "COMPACT_STRINGS", "Z")
  | 1 => ("java/util/ArrayList", "DEFAULTCAPACITY_EMPTY_ELEMENTDATA", "[Ljava/lang/Object;")
  | _ => ("jdk/internal/util/Preconditions", "SIOOBE_FORMATTER", "Ljava/util/function/BiFunction;")
def b_sf (j : Nat) : String × String := match j with
  | 0 => ("value", "[B")
  | _ => ("coder", "B")
/-- new objects' fields -/
def b_df (ci : Nat) : List Value := match ci with
  | 2 => [.int 0, .null, .int 0]
  | 3 => [.int 0, .int 0, .null]
  | 4 => [.null, .int 0]
  | 5 => [.null]
  | 6 => [.null, .null, .null, .int 0]
  | 7 => [.null, .int 0, .int 0]
  | 8 => [.null, .int 0, .int 0]
  | 9 => [.null, .null, .int 0, .int 0]
  | 10 => [.null, .null, .null, .null, .null, .null, .null, .null, .int 0, .int 0]
  | 11 => [.int 0, .null, .int 0, .int 0, .int 0, .int 0, .null, .null, .null, .int 0, .null, .int 0, .null, .null, .null, .int 0, .int 0, .null, .null, .null, .null, .int 0, .int 0]
  | _ => []
def b_ra (f : Nat → Option Nat) : (Nat → Int32) ⊕ (Nat → Int64) ⊕ (Nat → UInt32) ⊕ (Nat → UInt64) ⊕ (Nat → Option Nat) := .inr (.inr (.inr (.inr f)))
def b_len (X : aX) (ws : va_W) (a n : Nat) : Prop := (∃ (q0 t : Nat) (y : (Nat → Int32) ⊕ (Nat → Int64) ⊕ (Nat → UInt32) ⊕ (Nat → UInt64) ⊕ (Nat → Option Nat)), ws[q0]? = some (a, .inl (X.2.2.1 t, n, y)) ∧ t < 6) ∨ (∃ (ty : FieldType) (f : Nat → Value), b_ot X ty a n f) ∨ (∃ xs : Nat → Int32, b_ox X a n xs)
def b_fit (a3 : Nat) (v : Value) (P : Prop) : Prop := match a3, v with
  | 0, .int _ => P
  | 1, .int x => a_bl x P
  | 2, .ref _ => P
  | _, _ => False
def b_rc (X : aX) (ws : va_W) (kind ci : Nat) (as : List Value) (P : Prop) : Prop := match as with
  | .ref a :: _ => (match kind with
    | 0 => (∃ (q0 : Nat) (fs : List Value), ws[q0]? = some (a, .inr (ci, fs))) ∧ P
    | 2 => b_os X a ∧ P
    | _ => False)
  | _ => False
def b_call (X : aX) (k q : aM) (N : bN) (c s : Nat) (ws : va_W) (al : aV) (as rest : List Value) : Prop :=
  a_if (Nat.ble (rest.map fun v => v.category).sum 8) (a_cnt q k c s (fun c' s' => b_Meets X q ws as (fun ws' r => N c' s' ws' al (a_ps r rest))))
def b_mk (k : aM) (c s n : Nat) (P : Prop) : Prop := (c + 1 ≤ k.2.2.2.2.2.1 ∧ s + n ≤ k.2.2.2.2.2.2) ∧ P
def b_one (X : aX) (k : aM) (K : va_W → Option Value → Prop) (J : Nat → bN) (N : bN) (i : Instr) (a1 a2 a3 : Nat) (cv : Int32) (cal : Option aM) (pc c s : Nat) (ws : va_W) (al : aV) (st : List Value) : Prop := match i with
  | .iconst _ => N c s ws al (.int cv :: st)
  | .bipush _ => N c s ws al (.int cv :: st)
  | .sipush _ => N c s ws al (.int cv :: st)
  | .aconst_null => N c s ws al (.null :: st)
  | .iload_n _ => a_vi (a_ld al a1) (fun v => N c s ws al (.int v :: st))
  | .iload _ => a_vi (a_ld al a1) (fun v => N c s ws al (.int v :: st))
  | .aload_n _ => a_vr (a_ld al a1) (fun v => N c s ws al (.ref v :: st))
  | .aload _ => a_vr (a_ld al a1) (fun v => N c s ws al (.ref v :: st))
  | .istore_n _ => a_i1 st (fun v r => a_if (a_fr al a1 1) (N c s ws (a_sto a1 (.int v) al) r))
  | .istore _ => a_i1 st (fun v r => a_if (a_fr al a1 1) (N c s ws (a_sto a1 (.int v) al) r))
  | .astore_n _ => a_r1 st (fun v r => a_if (a_fr al a1 1) (N c s ws (a_sto a1 (.ref v) al) r))
  | .astore _ => a_r1 st (fun v r => a_if (a_fr al a1 1) (N c s ws (a_sto a1 (.ref v) al) r))
  | .iinc _ _ => a_vi (a_ld al a1) (fun v => a_if (a_fr al a1 1) (N c s ws (a_sto a1 (.int (v + cv)) al) st))
  | .iadd => a_i2 st (fun a b r => N c s ws al (.int (a + b) :: r))
  | .isub => a_i2 st (fun a b r => N c s ws al (.int (a - b) :: r))
  | .iand => a_i2 st (fun a b r => N c s ws al (.int (a &&& b) :: r))
  | .ishr => a_i2 st (fun a b r => N c s ws al (.int (a >>> (b &&& 31)) :: r))
  | .i2c => a_i1 st (fun a r => N c s ws al (.int (a.toUInt32 % 65536).toInt32 :: r))
  | .i2l => a_i1 st (fun a r => N c s ws al (.long a.toInt64 :: r))
  | .lcmp => a_l2 st (fun a b r => N c s ws al (.int (lg_cmp a b) :: r))
  | .dup => (match st with
    | .int v :: r => N c s ws al (.int v :: .int v :: r)
    | .ref v :: r => N c s ws al (.ref v :: .ref v :: r)
    | _ => False)
  | .dup_x1 => (match st with
    | .ref v :: .ref w :: r => N c s ws al (.ref v :: .ref w :: .ref v :: r)
    | _ => False)
  | .pop => (match st with
    | .int _ :: r => N c s ws al r
    | .ref _ :: r => N c s ws al r
    | _ => False)
  | .ifCond cd _ => a_i1 st (fun a r => match cd with
    | .eq => (a = 0 → J a1 c s ws al r) ∧ (¬ a = 0 → N c s ws al r)
    | .ne => (¬ a = 0 → J a1 c s ws al r) ∧ (a = 0 → N c s ws al r)
    | .lt => (a < 0 → J a1 c s ws al r) ∧ (¬ a < 0 → N c s ws al r)
    | .ge => (0 ≤ a → J a1 c s ws al r) ∧ (¬ 0 ≤ a → N c s ws al r)
    | .gt => (0 < a → J a1 c s ws al r) ∧ (¬ 0 < a → N c s ws al r)
    | .le => (a ≤ 0 → J a1 c s ws al r) ∧ (¬ a ≤ 0 → N c s ws al r))
  | .if_icmp cd _ => a_i2 st (fun a b r => match cd with
    | .eq => (a = b → J a1 c s ws al r) ∧ (¬ a = b → N c s ws al r)
    | .ne => (¬ a = b → J a1 c s ws al r) ∧ (a = b → N c s ws al r)
    | .lt => (a < b → J a1 c s ws al r) ∧ (¬ a < b → N c s ws al r)
    | .ge => (b ≤ a → J a1 c s ws al r) ∧ (¬ b ≤ a → N c s ws al r)
    | .gt => (b < a → J a1 c s ws al r) ∧ (¬ b < a → N c s ws al r)
    | .le => (a ≤ b → J a1 c s ws al r) ∧ (¬ a ≤ b → N c s ws al r))
  | .if_acmp cd _ => (match st with
    | .ref y :: .ref x :: r => (match cd with
      | .eq => (x = y → J a1 c s ws al r) ∧ (¬ x = y → N c s ws al r)
      | .ne => (¬ x = y → J a1 c s ws al r) ∧ (x = y → N c s ws al r))
    | _ => False)
  | .goto _ => J a1 c s ws al st
  | .tableswitch d lo hi offs => a_i1 st (fun a r => a_sw (fun t => J t c s ws al r) pc a lo offs.toList ∧ ((a.toInt < lo ∨ hi < a.toInt) → J ((pc : Int) + d).toNat c s ws al r))
  | .getfield _ => a_r1 st (fun a r => match a3 with
    | 2 => ∃ v : Value, b_of X (b_sf a2) v a ∧ N c s ws al (v :: r)
    | _ => ∃ (q0 : Nat) (fs : List Value) (v : Value), ws[q0]? = some (a, .inr (a1, fs)) ∧ fs[a2]? = some v ∧ N c s ws al (v :: r))
  | .putfield _ => (match st with
    | v :: .ref a :: r => ∃ (q0 : Nat) (fs : List Value), ws[q0]? = some (a, .inr (a1, fs)) ∧ a2 < fs.length ∧ b_fit a3 v (N c s (ws.set q0 (a, .inr (a1, fs.set a2 v))) al r)
    | _ => False)
  | .getstatic _ => ∃ v : Value, b_gs X (b_st a1) v ∧ N c s ws al (v :: st)
  | .arraylength => a_r1 st (fun a r => ∃ n : Nat, b_len X ws a n ∧ N c s ws al (.int (nI n) :: r))
  | .baload => (match st with
    | .int j :: .ref a :: r => ∃ (n : Nat) (f : Nat → Int32), b_ot X .byte a n (fun j => .int (f j)) ∧ a_ix j n (fun m => N c s ws al (.int (f m) :: r))
    | _ => False)
  | .iaload => (match st with
    | .int j :: .ref a :: r => ∃ (n : Nat) (f : Nat → Int32), b_ox X a n f ∧ a_ix j n (fun m => N c s ws al (.int (f m) :: r))
    | _ => False)
  | .aaload => (match st with
    | .int j :: .ref a :: r => ∃ (q0 n : Nat) (f : Nat → Option Nat), ws[q0]? = some (a, .inl (X.2.2.1 4, n, b_ra f)) ∧ a_ix j n (fun m => N c s ws al (va_rf (f m) :: r))
    | _ => False)
  | .laload => (match st with
    | .int j :: .ref a :: r => ∃ (q0 n : Nat) (f : Nat → Int64), ws[q0]? = some (a, .inl (X.2.2.1 5, n, .inr (.inl f))) ∧ a_ix j n (fun m => N c s ws al (.long (f m) :: r))
    | _ => False)
  | .lastore => (match st with
    | .long x :: .int j :: .ref a :: r => ∃ (q0 n : Nat) (f : Nat → Int64), ws[q0]? = some (a, .inl (X.2.2.1 5, n, .inr (.inl f))) ∧ a_ix j n (fun m => N c s (ws.set q0 (a, .inl (X.2.2.1 5, n, .inr (.inl (vp_updL f m x))))) al r)
    | _ => False)
  | .aastore => (match st with
    | .ref v :: .int j :: .ref a :: r => ∃ (q0 n : Nat) (f : Nat → Option Nat) (qk : Nat) (vs : List Value), ws[q0]? = some (a, .inl (X.2.2.1 4, n, b_ra f)) ∧ ws[qk]? = some (v, .inr (3, vs)) ∧ a_ix j n (fun m => N c s (ws.set q0 (a, .inl (X.2.2.1 4, n, b_ra (va_up f m (some v))))) al r)
    | _ => False)
  | .new _ => b_mk k c s a2 (∀ a : Nat, N (c + 1) (s + a2) ((a, .inr (a1, b_df a1)) :: ws) al (.ref a :: st))
  | .newarray _ => a_i1 st (fun n r => ∃ m : Nat, (n = nI m ∧ m ≤ 100000) ∧ b_mk k c s m (∀ a : Nat, N (c + 1) (s + m) ((a, .inl (X.2.2.1 a1, m, match a1 with
    | 5 => .inr (.inl fun _ => 0)
    | _ => .inl fun _ => 0)) :: ws) al (.ref a :: r)))
  | .anewarray _ => a_i1 st (fun n r => ∃ m : Nat, (n = nI m ∧ m ≤ 100000) ∧ b_mk k c s m (∀ a : Nat, N (c + 1) (s + m) ((a, .inl (X.2.2.1 4, m, b_ra fun _ => none)) :: ws) al (.ref a :: r)))
  | .ldc _ => (match a3 with
    | 1 => ∃ mi : Nat, b_om X mi ∧ N c s ws al (.ref mi :: st)
    | _ => N c s ws al (.int cv :: st))
  | .checkcast _ => a_r1 st (fun a r => ∃ (q0 n : Nat) (f : Nat → Int32), ws[q0]? = some (a, .inl (X.2.2.1 0, n, .inl f)) ∧ N c s ws al (.ref a :: r))
  | .invokevirtual _ => (match cal with
    | some q => a_take (a1 + 1) st [] (fun as rest => b_rc X ws a2 a3 as (b_call X k q N c s ws al as rest))
    | none => a_r1 st (fun a r => a_if (Nat.ble (r.map fun v => v.category).sum 8) (match a2 with
      | 5 => ∃ (mi q0 n : Nat) (f : Nat → Option Nat), b_om X mi ∧ ws[q0]? = some (a, .inl (X.2.2.1 4, n, b_ra f)) ∧ N c s ws al (.ref mi :: r)
      | _ => ∃ (q0 n : Nat) (f : Nat → Int32), ws[q0]? = some (a, .inl (X.2.2.1 0, n, .inl f)) ∧ (∀ i, i < n → fits .byte (.int (f i)) = true) ∧ b_mk k c s n (∀ b : Nat, N (c + 1) (s + n) ((b, .inl (X.2.2.1 0, n, .inl f)) :: ws) al (.ref b :: r)))))
  | .invokespecial _ => (match cal with
    | some q => a_take (a1 + 1) st [] (fun as rest => match as with
      | .ref a :: _ => b_call X k q N c s ws al as rest
      | _ => False)
    | none => a_r1 st (fun _ r => a_if (Nat.ble (r.map fun v => v.category).sum 8) (N c s ws al r)))
  | .invokestatic _ => (match cal with
    | some q => a_take a1 st [] (fun as rest => b_call X k q N c s ws al as rest)
    | none => (match a3 with
      | 0 => a_i2 st (fun a b r => a_if (Nat.ble (r.map fun v => v.category).sum 8) (N c s ws al (.int (if b < a then b else a) :: r)))
      | 1 => a_i2 st (fun a b r => a_if (Nat.ble (r.map fun v => v.category).sum 8) (N c s ws al (.int (if a < b then b else a) :: r)))
      | 2 => (match st with
        | .int n :: .int dp :: .ref b :: .int sp :: .ref a :: r => a_if (Nat.ble (r.map fun v => v.category).sum 8) (∃ (n' d' s' q0 q1 n0 n1 : Nat) (f g : Nat → Int32), (n = nI n' ∧ dp = nI d' ∧ sp = nI s' ∧ s' + n' ≤ n0 ∧ d' + n' ≤ n1 ∧ n0 ≤ 100000 ∧ n1 ≤ 100000) ∧
          ws[q0]? = some (a, .inl (X.2.2.1 0, n0, .inl f)) ∧ ws[q1]? = some (b, .inl (X.2.2.1 0, n1, .inl g)) ∧ (∀ i, i < n' → fits .byte (.int (f (s' + i))) = true) ∧ N c s (ws.set q1 (b, .inl (X.2.2.1 0, n1, .inl (va_cpy f g s' d' n')))) al r)
        | _ => False)
      | _ => (match st with
        | .int n :: .int dp :: .ref b :: .int sp :: .ref a :: r => a_if (Nat.ble (r.map fun v => v.category).sum 8) (∃ (n' d' s' q0 q1 n0 n1 : Nat) (f g : Nat → Option Nat), (n = nI n' ∧ dp = nI d' ∧ sp = nI s' ∧ s' + n' ≤ n0 ∧ d' + n' ≤ n1 ∧ n0 ≤ 100000 ∧ n1 ≤ 100000) ∧
          ws[q0]? = some (a, .inl (X.2.2.1 4, n0, b_ra f)) ∧ ws[q1]? = some (b, .inl (X.2.2.1 4, n1, b_ra g)) ∧ (∀ i, i < n' → ∀ y : Nat, f (s' + i) = some y → ∃ (qk : Nat) (vs : List Value), ws[qk]? = some (y, .inr (3, vs))) ∧ N c s (ws.set q1 (b, .inl (X.2.2.1 4, n1, b_ra (va_cpy f g s' d' n')))) al r)
        | _ => False)))
  | .ireturn => (match st with
    | [.int v] => K ws (some (.int v))
    | _ => False)
  | .areturn => (match st with
    | [.ref v] => K ws (some (.ref v))
    | _ => False)
  | .return_ => (match st with
    | [] => K ws none
    | _ => False)
  | _ => False
def b_run (X : aX) (k : aM) (K : va_W → Option Value → Prop) (AT : Nat → bN) (cuts : List (Nat × List Nat)) (J : Nat → bN) : List aI → Nat → bN
  | [], _, _, _, _, _, _ => False
  | (i, len, (a1, a2, a3), cv, cal) :: l, pc, c, s, ws, al, st => b_one X k K J (fun c s ws al st => match a_cut cuts (pc + len) with
    | some ks => AT (pc + len) c s ws (a_keep ks al) st
    | none => b_run X k K AT cuts J l (pc + len) c s ws al st) i a1 a2 a3 cv cal pc c s ws al st
def b_jmp (X : aX) (k : aM) (K : va_W → Option Value → Prop) (code : List aI) (AT : Nat → bN) (cuts : List (Nat × List Nat)) : Nat → Nat → bN
  | 0, pc, c, s, ws, al, st => AT pc c s ws al st
  | n + 1, pc, c, s, ws, al, st => match a_cut cuts pc with
    | some ks => AT pc c s ws (a_keep ks al) st
    | none => b_run X k K AT cuts (b_jmp X k K code AT cuts n) (a_suf code 0 pc) pc c s ws al st
/-! what is looked at, once, of each instruction -/
def b_gc : MethodName := ⟨"java/lang/Object", "getClass", "()Ljava/lang/Class;"⟩
def b_cl : MethodName := ⟨"java/lang/Object", "clone", "()Ljava/lang/Object;"⟩
def b_ok (k : aM) (pc : Nat) (x : aI) : Bool := match x.1 with
  | .nop => true
  | .getfield i => decide (decode k.2.1 pc = .ok (x.1, x.2.1)) && (x.2.1 == 3 && (match x.2.2.1.2.2 with
    | 2 => a_w (.fieldLink k.1.cls i "java/lang/String" (b_sf x.2.2.1.2.1).1 (b_sf x.2.2.1.2.1).2)
    | n => (match vwCl[x.2.2.1.1]? with
      | some q => Nat.ble (x.2.2.1.2.1 + 1) q.2.2 && (match n with
        | 0 => a_w (.fieldLink k.1.cls i (q.2.1 x.2.2.1.2.1).1 (q.2.1 x.2.2.1.2.1).2.1 (q.2.1 x.2.2.1.2.1).2.2.1) || (a_w (.fieldLink k.1.cls i q.1 (q.2.1 x.2.2.1.2.1).2.1 (q.2.1 x.2.2.1.2.1).2.2.1) && a_w (.sameField q.1 (q.2.1 x.2.2.1.2.1).1 (q.2.1 x.2.2.1.2.1).2.1 (q.2.1 x.2.2.1.2.1).2.2.1))
        | _ => a_nw (.fieldLinkNest k.1.cls i (q.2.1 x.2.2.1.2.1).1 (q.2.1 x.2.2.1.2.1).2.1 (q.2.1 x.2.2.1.2.1).2.2.1 "FilingOrder"))
      | none => false)))
  | .putfield i => decide (decode k.2.1 pc = .ok (x.1, x.2.1)) && (x.2.1 == 3 && (match vwCl[x.2.2.1.1]? with
    | some q => Nat.ble (x.2.2.1.2.1 + 1) q.2.2 && ((a_w (.fieldLink k.1.cls i (q.2.1 x.2.2.1.2.1).1 (q.2.1 x.2.2.1.2.1).2.1 (q.2.1 x.2.2.1.2.1).2.2.1) || (a_w (.fieldLink k.1.cls i q.1 (q.2.1 x.2.2.1.2.1).2.1 (q.2.1 x.2.2.1.2.1).2.2.1) && a_w (.sameField q.1 (q.2.1 x.2.2.1.2.1).1 (q.2.1 x.2.2.1.2.1).2.1 (q.2.1 x.2.2.1.2.1).2.2.1))) && (((q.2.1 x.2.2.1.2.1).2.2.2 == false || (k.1.name == "<init>" && (q.2.1 x.2.2.1.2.1).1 == k.1.cls)) && (match x.2.2.1.2.2 with
      | 0 => decide (a_ty q x.2.2.1.2.1 = .int)
      | 1 => decide (a_ty q x.2.2.1.2.1 = .boolean)
      | _ => (match a_ty q x.2.2.1.2.1 with
        | .object _ => true
        | .array _ => true
        | _ => false))))
    | none => false))
  | .getstatic i => decide (decode k.2.1 pc = .ok (x.1, x.2.1)) && (x.2.1 == 3 && a_w (.fieldLink k.1.cls i (b_st x.2.2.1.1).1 (b_st x.2.2.1.1).2.1 (b_st x.2.2.1.1).2.2))
  | .new i => decide (decode k.2.1 pc = .ok (x.1, x.2.1)) && (x.2.1 == 3 && (match vwCl[x.2.2.1.1]? with
    | some q => a_w (.classLink k.1.cls i q.1) && (a_w (.instantiable q.1 q.2.2) && (a_w (.initialized q.1) && (q.2.2 == x.2.2.1.2.1 && (List.range q.2.2).all (fun j => decide (defaultValue (a_ty q j) = vp_V (b_df x.2.2.1.1) j)))))
    | none => false))
  | .newarray t => decide (decode k.2.1 pc = .ok (x.1, x.2.1)) && (x.2.1 == 2 && (a_w (.arrayClass (newarray.typeOf t)) && (match t, x.2.2.1.1 with
    | .byte, 0 => true
    | .char, 1 => true
    | .int, 2 => true
    | .boolean, 3 => true
    | .long, 5 => true
    | _, _ => false)))
  | .anewarray i => decide (decode k.2.1 pc = .ok (x.1, x.2.1)) && (x.2.1 == 3 && a_w (.classLink k.1.cls i "java/lang/Object"))
  | .ldc i => decide (decode k.2.1 pc = .ok (x.1, x.2.1)) && (x.2.1 == 2 && (match x.2.2.1.2.2 with
    | 1 => a_w (.classLink k.1.cls i "[Ljava/lang/Object;")
    | _ => a_w (.constant k.1.cls i x.2.2.2.1)))
  | .checkcast i => decide (decode k.2.1 pc = .ok (x.1, x.2.1)) && (x.2.1 == 3 && a_w (.classLink k.1.cls i "[B"))
  | .aastore => decide (decode k.2.1 pc = .ok (x.1, x.2.1)) && (x.2.1 == 1 && a_nw (.castable "FilingOrder$Entry" "java/lang/Object"))
  | .if_acmp _ off => decide (decode k.2.1 pc = .ok (x.1, x.2.1)) && (decide ((pc : Int) + off = (x.2.2.1.1 : Int)) && x.2.1 == 3)
  | .invokevirtual i => decide (decode k.2.1 pc = .ok (x.1, x.2.1)) && (x.2.1 == 3 && (match x.2.2.2.2 with
    | some q => a_mok k q x.2.2.1.1 && (a_w (.methodLink k.1.cls i q.1) && (a_w (.instanceMethod q.1) && (a_w (.selects q.1.cls q.1 q.1) && (a_w (.initialized q.1.cls) && (match x.2.2.1.2.1 with
      | 0 => decide ((vwCl[x.2.2.1.2.2]?).map (fun r => r.1) = some q.1.cls)
      | _ => decide (q.1.cls = "java/lang/String"))))))
    | none => Nat.ble 1 k.2.2.2.2.1 && (match x.2.2.1.2.1 with
      | 5 => a_w (.methodLink k.1.cls i b_gc) && (a_w (.selects "[Ljava/lang/Object;" b_gc b_gc) && (a_w (.instanceMethod b_gc) && a_w (.native b_gc)))
      | _ => a_w (.methodLink k.1.cls i ⟨"[B", "clone", "()Ljava/lang/Object;"⟩) && (a_w (.sameMethod "[B" "java/lang/Object" "clone" "()Ljava/lang/Object;") && (a_w (.native b_cl) && (a_w (.instanceMethod b_cl) && (a_w (.selects "[B" ⟨"[B", "clone", "()Ljava/lang/Object;"⟩ b_cl) && a_nw (.castable "[B" "java/lang/Cloneable"))))))))
  | .invokespecial i => decide (decode k.2.1 pc = .ok (x.1, x.2.1)) && (x.2.1 == 3 && (match x.2.2.2.2 with
    | some q => a_mok k q x.2.2.1.1 && (a_w (.instanceMethod q.1) && (a_w (.initialized q.1.cls) && (q.1.name == "<init>" && (decide (q.2.2.2.1 = none) && (match x.2.2.1.2.1 with
      | 0 => a_w (.methodLink k.1.cls i q.1)
      | _ => a_nw (.methodLinkNest k.1.cls i q.1 "FilingOrder"))))))
    | none => Nat.ble 1 k.2.2.2.2.1 && (a_w (.methodLink k.1.cls i Lib.objectInit) && (a_w (.instanceMethod Lib.objectInit) && a_w (.code Lib.objectInit ⟨#[0xb1]⟩ 1 none)))))
  | .invokestatic i => decide (decode k.2.1 pc = .ok (x.1, x.2.1)) && (x.2.1 == 3 && (match x.2.2.2.2 with
    | some q => a_mok k q x.2.2.1.1 && (a_w (.static q.1) && (a_w (.initialized q.1.cls) && (match x.2.2.1.2.1 with
      | 0 => a_w (.methodLink k.1.cls i q.1)
      | _ => a_nw (.methodLinkNest k.1.cls i q.1 "FilingOrder"))))
    | none => Nat.ble 1 k.2.2.2.2.1 && (match x.2.2.1.2.2 with
      | 0 => a_w (.methodLink k.1.cls i Lib.Math.min.name) && (a_w (.static Lib.Math.min.name) && (a_w (.initialized "java/lang/Math") && a_w (.code Lib.Math.min.name Lib.Math.min.code 2 (some .int))))
      | 1 => a_w (.methodLink k.1.cls i Lib.Math.max.name) && (a_w (.static Lib.Math.max.name) && (a_w (.initialized "java/lang/Math") && a_w (.code Lib.Math.max.name Lib.Math.max.code 2 (some .int))))
      | _ => a_w (.methodLink k.1.cls i arraycopyName) && (a_w (.native arraycopyName) && (a_w (.static arraycopyName) && (a_w (.initialized "java/lang/System") && a_nw (.castable "FilingOrder$Entry" "java/lang/Object")))))))
  | _ => a_ok k pc x
def b_oks (k : aM) : List aI → Nat → Bool
  | [], _ => true
  | x :: l, pc => b_ok k pc x && b_oks k l (pc + x.2.1)
def b_good (k : aM) (code : List aI) : Bool := b_oks k code 0 && plainName k.1.cls
