/-! What surrounds the law, and stays as it is -/
def tmS (i : Nat) : Term := .string "FilingOrder" (a_sx i)
def tTx (i : Nat) : String := ["a", "an", "the", "der", "die", "das", "le", "la", "les", "no such byte of the key"].getD i ""
def tLen : List Nat := [1, 2, 3, 3, 3, 3, 2, 2, 3, 23]
def tByt : List (List Int32) := [(a_tx 0).map nI, (a_tx 1).map nI, (a_tx 2).map nI, (a_tx 3).map nI, (a_tx 4).map nI, (a_tx 5).map nI, (a_tx 6).map nI, (a_tx 7).map nI, (a_tx 8).map nI, [110, 111, 32, 115, 117, 99, 104, 32, 98, 121, 116, 101, 32, 111, 102, 32, 116, 104, 101, 32, 107, 101, 121]]
def exE (A : Nat → Prop) (e0 mi b L : Nat) (v2 : Value) (adK adV : Nat → Nat) (xs : Nat → Int32) (fO : Nat → Value) (U : State) (H : Heap) : Prop :=
  (∀ w ∈ lw_tbl, a_isN w = true → va_Nw w U) ∧ (∀ w ∈ lw_tbl, isD w = true → va_Nw w U) ∧ va_AO "java/lang/Object" U ∧ va_Dc U ∧ va_Mi "[Ljava/lang/Object;" mi U ∧
  va_Z (b_st 0).1 (b_st 0).2.1 (b_st 0).2.2 (.int 1) A U H ∧ va_Z (b_st 1).1 (b_st 1).2.1 (b_st 1).2.2 (.ref e0) A U H ∧ va_Z (b_st 2).1 (b_st 2).2.1 (b_st 2).2.2 v2 A U H ∧
  va_T (.object "java/lang/Object") e0 0 fO A U H ∧ vk_S 10 tLen tByt adK adV A U H ∧ (∀ j, j < 10 → vk_R "FilingOrder" (a_sx j) (tTx j) (adK j) U) ∧ (va_X b L xs U H ∧ b < H.size ∧ ¬ A b) ∧
  vx_Zq Bundle.tN "UNASSIGNED_STACK" Bundle.steD A U H ∧ vx_Zq Bundle.tN "SUPPRESSED_SENTINEL" Bundle.listD A U H
theorem exE_st {A : Nat → Prop} {e0 mi b L : Nat} {v2 : Value} {adK adV : Nat → Nat} {xs : Nat → Int32} {fO : Nat → Value} {s U : State} (hw : s.WarmedH U.vm) (hz : s.heap.size ≤ U.heap.size) (hk : ∀ q : Nat, q < s.heap.size → ¬ A q → U.heap[q]? = s.heap[q]?) (h : exE A e0 mi b L v2 adK adV xs fO s s.heap) : exE A e0 mi b L v2 adK adV xs fO U U.heap := by
  obtain ⟨h1, h2, h3, h4, h5, h6, h7, h8, h9, h10, h11, ⟨h12, h13, h14⟩, h15, h16⟩ := h
  refine ⟨fun w m1 m2 => ?_, fun w m1 m2 => ?_, va_AO.moved hw.alike h3, va_Dc.moved hw.alike h4, va_Mi.moved hw.alike h5, (va_Z.moved hw.alike h6).kept hk, (va_Z.moved hw.alike h7).kept hk, (va_Z.moved hw.alike h8).kept hk, (va_T.moved hw.alike h9).kept hk, (vk_S.moved hw.alike h10).kept hk, fun j hj => vk_R.warm hw (h11 j hj), ⟨va_X.moved hw.alike (h12.kept (hk b h13 h14)), Nat.lt_of_lt_of_le h13 hz, h14⟩, (vx_Zq.moved hw.alike h15).kept hk, (vx_Zq.moved hw.alike h16).kept hk⟩
  · have w3 := h1 w m1 m2
    cases w <;> first | exact va_Nw.warmF hw w3 | exact va_Nw.warmM hw w3 | exact va_Nw.warmC hw w3 | cases m2
  · have w3 := h2 w m1 m2
    cases w <;> first | exact va_Nw.warmD hw w3 | cases m2
def mkX0 (l : Launch) (D : va_G) (cA : Nat → ClassId) (N0 e0 mi b L : Nat) (v2 : Value) (adK adV : Nat → Nat) (xs : Nat → Int32) (fO : Nat → Value) : aX := (l, D, cA, N0, exE (fun q => N0 ≤ q) e0 mi b L v2 adK adV xs fO, fun _ _ _ => False)
theorem tx_len : ∀ j, j < 9 → tLen.getD j 0 = (a_tx j).length ∧ tByt.getD j [] = (a_tx j).map nI := by decide +kernel
theorem tx_at (l : List Nat) (i : Nat) : (l.map nI).getD i 0 = nI (l.getD i 0) := by
  rw [List.getD_eq_getElem?_getD, List.getD_eq_getElem?_getD, List.getElem?_map]
  cases l[i]? <;> rfl
section Ev
variable {l : Launch} {D : va_G} {cA : Nat → ClassId} {N0 e0 mi b L : Nat} {v2 : Value} {adK adV : Nat → Nat} {xs : Nat → Int32} {fO : Nat → Value}
theorem exX {s : State} (h : (mkX0 l D cA N0 e0 mi b L v2 adK adV xs fO).2.2.2.2.1 s s.heap) : exE (fun q => N0 ≤ q) e0 mi b L v2 adK adV xs fO s s.heap := h
theorem ex_okE (hv : v2 = .null ∨ ∃ a, v2 = .ref a) : okE (mkX0 l D cA N0 e0 mi b L v2 adK adV xs fO) e0 mi adK := by
  have h10 : ∀ s : State, (mkX0 l D cA N0 e0 mi b L v2 adK adV xs fO).2.2.2.2.1 s s.heap → vk_S 10 tLen tByt adK adV (fun q => N0 ≤ q) s s.heap := fun s h => (exX h).2.2.2.2.2.2.2.2.2.1
  refine ⟨⟨fun s U hw hz hk h => exE_st hw hz hk (exX h), fun s h => (exX h).1, fun s h => ⟨(exX h).2.2.1, (exX h).2.2.2.1⟩⟩, fun s h => (exX h).2.2.2.2.1, fun s h => (exX h).2.2.2.2.2.2.1, ⟨fO, fun s h => (exX h).2.2.2.2.2.2.2.2.1⟩, fun s h => (exX h).2.2.2.2.2.1, ⟨v2, hv, fun s h => (exX h).2.2.2.2.2.2.2.1⟩, fun j hj => ?_, fun j hj s h => ((h10 s h).1 j hj).1, fun j hj => ⟨tTx j, fun s h => (exX h).2.2.2.2.2.2.2.2.2.2.1 j hj⟩⟩
  have hj' : j < 10 := by omega
  refine ⟨fun s h => ((h10 s h).1 j hj').1, fun s h => ((h10 s h).1 j hj').2.1, adV j, fun s h => ((h10 s h).1 j hj').2.2.1, fun s h => ?_⟩
  have hT := ((h10 s h).1 j hj').2.2.2
  obtain ⟨e1, e2⟩ := tx_len j hj
  rw [e1, e2] at hT
  have e3 : (fun i => Value.int (((a_tx j).map nI).getD i 0)) = (fun i => Value.int (nI ((a_tx j).getD i 0))) := by
    funext i
    rw [tx_at]
  rw [e3] at hT
  exact hT
theorem ex_okV (hl : l.stackTraces = false) : okV (mkX0 l D cA N0 e0 mi b L v2 adK adV xs fO) :=
  ⟨hl, fun s h => ⟨(exX h).2.1, (exX h).2.2.2.2.2.2.2.2.2.2.2.2.1, (exX h).2.2.2.2.2.2.2.2.2.2.2.2.2, tTx 9, adK 9, (exX h).2.2.2.2.2.2.2.2.2.2.1 9 (by omega)⟩⟩
theorem ex_ox : b_ox (mkX0 l D cA N0 e0 mi b L v2 adK adV xs fO) b L xs := fun s h => (exX h).2.2.2.2.2.2.2.2.2.2.2.1
end Ev
/-! where it is found: the tables and what the statement gives -/
def isI (C : String) (w : Cond) : Bool := match w with
  | .instantiable c _ => c == C
  | _ => false
theorem cl_inst : ∀ q ∈ vwCl, ∃ n : Nat, Cond.instantiable q.1 n ∈ lw_g := by
  have h : vwCl.all (fun q => lw_tbl.any (fun w => isI q.1 w && goodWord w)) = true := by decide +kernel
  intro q hq
  obtain ⟨w, h1, h2⟩ := List.any_eq_true.mp (List.all_eq_true.mp h q hq)
  rw [Bool.and_eq_true] at h2
  obtain ⟨h2, h3⟩ := h2
  cases w <;> first | cases h2 | skip
  rename_i c n
  have e : c = q.1 := by simpa [isI] using h2
  subst e
  exact ⟨n, List.mem_filter.mpr ⟨h1, h3⟩⟩
theorem cl_at {args : Array Value} {s : State} (hts : ∀ w ∈ lw_g, w.before args s = true) : ∃ (dC : Nat → ClassId) (dI : Nat → Nat → Nat), ∀ (k : Nat) (q : vw_C), vwCl[k]? = some q → u_Kn s q.1 q.2.1 q.2.2 (dC k) (dI k) := by
  have h : ∀ k : Nat, ∃ (cC : ClassId) (iS : Nat → Nat), ∀ q : vw_C, vwCl[k]? = some q → u_Kn s q.1 q.2.1 q.2.2 cC iS := by
    intro k
    cases hq : vwCl[k]? with
    | none => exact ⟨(0 : Nat), fun _ => 0, fun q h => nomatch h⟩
    | some q =>
      have hm := List.mem_of_getElem? hq
      obtain ⟨n, hn⟩ := cl_inst q hm
      obtain ⟨cC, iS, h⟩ := u_known hts (a_cls_in q hm) (hts _ hn)
      exact ⟨cC, iS, fun q' e => by cases e; exact h⟩
  exact ⟨fun k => Classical.choose (h k), fun k => Classical.choose (Classical.choose_spec (h k)), fun k q hq => Classical.choose_spec (Classical.choose_spec (h k)) q hq⟩
theorem ca_w : ([FieldType.byte, .char, .int, .boolean, .long].all fun t => a_w (.arrayClass t)) = true := by decide +kernel
theorem ca_at {args : Array Value} {s : State} (hts : ∀ w ∈ lw_g, w.before args s = true) (hao : va_AO "java/lang/Object" s) : ∃ cA : Nat → ClassId, ∀ (k : Nat) (q : ClassId × FieldType), (a_tys cA)[k]? = some q → ArrOfT s q.1 q.2 ∧ va_RA s q.1 q.2 := by
  have pr : ∀ ty, ty ∈ [FieldType.byte, .char, .int, .boolean, .long] → ∃ c, ArrOfT s c ty ∧ va_RA s c ty := by
    intro ty hm
    obtain ⟨c, k, comp, h1, h2, h3⟩ := Cond.arrayClass_spec (hts _ (a_w_in (List.all_eq_true.mp ca_w ty hm)))
    refine ⟨c, fun n z => ⟨fun _ h => (by cases h), k, h2, comp, h3⟩, ?_⟩
    cases ty <;> first | exact h1 | (simp at hm; done)
  obtain ⟨c0, h0⟩ := pr .byte (by simp)
  obtain ⟨c1, h1⟩ := pr .char (by simp)
  obtain ⟨c2, h2⟩ := pr .int (by simp)
  obtain ⟨c3, h3⟩ := pr .boolean (by simp)
  obtain ⟨c5, h5⟩ := pr .long (by simp)
  obtain ⟨comp, c4, kA, g1, g2, g3, g4, g5⟩ := Cond.arrayOver_spec hao
  refine ⟨fun i => match i with | 0 => c0 | 1 => c1 | 2 => c2 | 3 => c3 | 4 => c4 | _ => c5, ?_⟩
  intro k q hq
  match k, hq with
  | 0, hq => cases hq; exact h0
  | 1, hq => cases hq; exact h1
  | 2, hq => cases hq; exact h2
  | 3, hq => cases hq; exact h3
  | 4, hq => cases hq; exact ⟨fun n z => ⟨fun _ h => (by cases h), kA, g3, comp, g4⟩, kA, comp, g3, g4, g1, g5⟩
  | 5, hq => cases hq; exact h5
  | k + 6, hq => simp [a_tys] at hq
def fL : List Cond := flatC (Jvm.Cond.and given_1 narrow_1)
theorem tx_w1 : ((List.range 10).all fun i => decide (Cond.exactly (tmS i) "java/lang/String" ∈ fL) && (decide (Cond.eq (.field (tmS i) "java/lang/String" "coder" "B") (.int 0) ∈ fL) && (decide (Cond.arrayOf (.field (tmS i) "java/lang/String" "value" "[B") .byte ∈ fL) && (decide (Cond.eq (.length (.field (tmS i) "java/lang/String" "value" "[B")) (.int (Int32.ofNat (tLen.getD i 0))) ∈ fL) && decide (Cond.stringRef "FilingOrder" (a_sx i) (tTx i) ∈ lw_tbl))))) = true := by decide +kernel
theorem tx_w2 : ((List.range 10).all fun i => (List.range (tLen.getD i 0)).all fun j => decide (Cond.eq (.elem (.field (tmS i) "java/lang/String" "value" "[B") (.int (Int32.ofNat j))) (.int ((tByt.getD i []).getD j 0)) ∈ fL)) = true := by decide +kernel
theorem tx_w3 : ((List.range 10).all fun i => (List.range 10).all fun j => decide (i = j) || (decide (Cond.not (Cond.eq (tmS i) (tmS j)) ∈ fL) || decide (Cond.not (Cond.eq (tmS j) (tmS i)) ∈ fL))) = true := by decide +kernel
theorem ex_at {s : State} {b L : Nat} {xs : Nat → Int32} (hts : ∀ w ∈ lw_tbl, w.before #[Value.ref b] s = true) (hgv : (Jvm.Cond.and given_1 narrow_1).before #[Value.ref b] s = true) (hX : va_X b L xs s s.heap) (hbl : b < s.heap.size) :
    ∃ (e0 mi : Nat) (v2 : Value) (adK adV : Nat → Nat) (fO : Nat → Value), (v2 = .null ∨ ∃ a, v2 = .ref a) ∧ exE (fun q => s.heap.size ≤ q) e0 mi b L v2 adK adV xs fO s s.heap := by
  have hA : ∀ a : Nat, a < s.heap.size → ¬ (fun q : Nat => s.heap.size ≤ q) a := fun a h => Nat.not_le.mpr h
  have hs : ∀ w ∈ fL, w.before #[Value.ref b] s = true := flat_of_before _ hgv
  have t1 := fun (i : Nat) (hi : i < 10) => List.all_eq_true.mp tx_w1 i (List.mem_range.mpr hi)
  simp only [Bool.and_eq_true, decide_eq_true_eq] at t1
  have t2 := fun (i : Nat) (hi : i < 10) (j : Nat) (hj : j < tLen.getD i 0) => of_decide_eq_true (List.all_eq_true.mp (List.all_eq_true.mp tx_w2 i (List.mem_range.mpr hi)) j (List.mem_range.mpr hj))
  have t3 := fun (i : Nat) (hi : i < 10) (j : Nat) (hj : j < 10) => List.all_eq_true.mp (List.all_eq_true.mp tx_w3 i (List.mem_range.mpr hi)) j (List.mem_range.mpr hj)
  simp only [Bool.or_eq_true, decide_eq_true_eq] at t3
  have t0 : ∀ i : Nat, i < 10 → tLen.getD i 0 < 2 ^ 31 := by decide +kernel
  obtain ⟨adK, adV, hS, hK⟩ := vk_Sof (N := 10) (tm := tmS) (len := tLen) (byt := tByt) t0 (fun i hi => hs _ (t1 i hi).1) (fun i hi => hs _ (t1 i hi).2.1) (fun i hi => hs _ (t1 i hi).2.2.1) (fun i hi => hs _ (t1 i hi).2.2.2.1) (fun i hi j hj => hs _ (t2 i hi j hj))
    (fun i j hi hj hne => by
      rcases t3 i hi j hj with h | h | h
      · exact absurd h hne
      · exact Or.inl (hs _ h)
      · exact Or.inr (hs _ h)) hA
  obtain ⟨mi, hmi⟩ := va_Mi.of (C := "[Ljava/lang/Object;") (hs _ (by decide +kernel))
  obtain ⟨e0, he0, hT⟩ := va_Tof (N := 0) (f := fun _ => .null) (tm := .static "java/util/ArrayList" "DEFAULTCAPACITY_EMPTY_ELEMENTDATA" "[Ljava/lang/Object;") (ty := .object "java/lang/Object") (by decide) (hs _ (by decide +kernel)) (va_eqt (hs _ (by decide +kernel))) (fun j hj => absurd hj (by omega)) hA
  have z0 := va_Zof (hts (.laysStatic "java/lang/String" "COMPACT_STRINGS" "Z") (by decide +kernel)) (hts (.initialized "java/lang/String") (by decide +kernel)) (va_eqi (z := 1) (hs _ (by decide +kernel))) hA
  have z1 := va_Zof (hts (.laysStatic "java/util/ArrayList" "DEFAULTCAPACITY_EMPTY_ELEMENTDATA" "[Ljava/lang/Object;") (by decide +kernel)) (hts (.initialized "java/util/ArrayList") (by decide +kernel)) he0 hA
  have z2 := va_Zqof (hts (.laysStatic "jdk/internal/util/Preconditions" "SIOOBE_FORMATTER" "Ljava/util/function/BiFunction;") (by decide +kernel)) (hts (.initialized "jdk/internal/util/Preconditions") (by decide +kernel)) (hs _ (by decide +kernel)) hA
  have z3 := vx_Zqof (hts (.laysStatic Bundle.tN "UNASSIGNED_STACK" Bundle.steD) (by decide +kernel)) (hts (.initialized Bundle.tN) (by decide +kernel)) (hs _ (by decide +kernel)) hA
  have z4 := vx_Zqof (hts (.laysStatic Bundle.tN "SUPPRESSED_SENTINEL" Bundle.listD) (by decide +kernel)) (hts (.initialized Bundle.tN) (by decide +kernel)) (hs _ (by decide +kernel)) hA
  have n1 : ∀ w ∈ lw_tbl, a_isN w = true → va_Nw w s := fun w m1 m2 => by
    have w3 := hts w m1
    cases w <;> first | exact va_Nw.of rfl w3 | cases m2
  have n2 : ∀ w ∈ lw_tbl, isD w = true → va_Nw w s := fun w m1 m2 => by
    have w3 := hts w m1
    cases w <;> first | exact va_Nw.of rfl w3 | cases m2
  have ao : va_AO "java/lang/Object" s := va_AO.of (hts (.arrayOver (.object "java/lang/Object")) (by decide +kernel))
  have dc : va_Dc s := va_Dc.of (hts (.declares ⟨"java/lang/Object", "getClass", "()Ljava/lang/Class;"⟩) (by decide +kernel))
  have rs : ∀ j, j < 10 → vk_R "FilingOrder" (a_sx j) (tTx j) (adK j) s := fun j hj => vk_R.of (A := #[Value.ref b]) (hts _ (t1 j hj).2.2.2.2) (hK j hj)
  rcases z2 with z2 | ⟨a, z2⟩
  · exact ⟨e0, mi, .null, adK, adV, _, Or.inl rfl, n1, n2, ao, dc, hmi, z0, z1, z2, hT, hS, rs, ⟨hX, hbl, hA b hbl⟩, z3, z4⟩
  · exact ⟨e0, mi, .ref a, adK, adV, _, Or.inr ⟨a, rfl⟩, n1, n2, ao, dc, hmi, z0, z1, z2, hT, hS, rs, ⟨hX, hbl, hA b hbl⟩, z3, z4⟩
