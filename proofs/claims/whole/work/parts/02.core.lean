/-! The abstract machine: a state is a table of numbers (cell, place), a layout of cells, and the contents of the lists; a method's instructions are run on it, and what must hold for it to come to its end is computed. -/
abbrev aC : Type := (Nat × List Value) ⊕ (Nat × Nat)
abbrev aS : Type := Nat → Nat → Int32
abbrev aZ : Type := List (List Nat)
abbrev aV : Type := List (Nat × Value)
/-- a method: name, code, locals, answer's type, depth, cells and slots that it makes at most -/
abbrev aM : Type := MethodName × ByteArray × Nat × Option FieldType × Nat × Nat × Nat
/-- an instruction: itself, its length, three numbers (target, class and field, number of arguments ..), a constant, the method called -/
abbrev aI : Type := Instr × Nat × (Nat × Nat × Nat) × Int32 × Option aM
/-- the fixed surroundings: launch, classes, array classes, first free cell, what stays, the lists' cells -/
abbrev aX : Type := Launch × va_G × (Nat → ClassId) × Nat × (State → Heap → Prop) × ((Nat → Nat) → aZ → va_W → Prop)
def a_cv (ad : Nat → Nat) (v : Value) : Value := match v with
  | .ref i => .ref (ad i)
  | v => v
def a_fv (ad : Nat → Nat) (f : Nat → Int32) (k : Nat) (v : Value) : Value := match v with
  | .int _ => .int (f k)
  | v => a_cv ad v
def a_ce (ad : Nat → Nat) (cA : Nat → ClassId) (f : Nat → Int32) (c : aC) : va_E := match c with
  | .inl o => .inr (o.1, o.2.mapIdx (fun k v => a_fv ad f k v))
  | .inr t => .inl (cA t.1, t.2, .inl f)
def a_ws (ad : Nat → Nat) (cA : Nat → ClassId) (L : List aC) (σ : aS) : va_W := L.mapIdx (fun i c => (ad i, a_ce ad cA (σ i) c))
def a_up (σ : aS) (i k : Nat) (v : Int32) : aS := fun a b => if a = i then (if b = k then v else σ a b) else σ a b
theorem a_up_row (σ : aS) (i k : Nat) (v : Int32) : a_up σ i k v i = upd (σ i) k v := by
  funext b
  simp [a_up, upd]
theorem a_up_ne {σ : aS} {i k a : Nat} {v : Int32} (h : a ≠ i) : a_up σ i k v a = σ a := by
  funext b
  simp [a_up, h]
theorem a_cv_cat (ad : Nat → Nat) (v : Value) : (a_cv ad v).category = v.category := by cases v <;> rfl
theorem a_ws_at {ad : Nat → Nat} {cA : Nat → ClassId} {L : List aC} {σ : aS} {Z : va_W} {i : Nat} {c : aC} (h : L[i]? = some c) : (a_ws ad cA L σ ++ Z)[i]? = some (ad i, a_ce ad cA (σ i) c) := by
  have hi : i < L.length := (List.getElem?_eq_some_iff.mp h).1
  rw [List.getElem?_append_left (by simpa [a_ws] using hi)]
  simp [a_ws, List.getElem?_mapIdx, h]
theorem a_ws_len {ad : Nat → Nat} {cA : Nat → ClassId} {L : List aC} {σ : aS} : (a_ws ad cA L σ).length = L.length := by simp [a_ws]
theorem a_ws_fput {ad : Nat → Nat} {cA : Nat → ClassId} {L : List aC} {σ : aS} {Z : va_W} {i ci k : Nat} {fs : List Value} {x v : Int32} (h : L[i]? = some (.inl (ci, fs))) (hk : fs[k]? = some (.int x)) :
    (a_ws ad cA L σ ++ Z).set i (ad i, .inr (ci, (fs.mapIdx (fun k v => a_fv ad (σ i) k v)).set k (.int v))) = a_ws ad cA L (a_up σ i k v) ++ Z := by
  have hi : i < L.length := (List.getElem?_eq_some_iff.mp h).1
  rw [List.set_append_left _ _ (by rw [a_ws_len]; exact hi)]
  congr 1
  apply List.ext_getElem?
  intro j
  by_cases hj : j = i
  · subst hj
    rw [List.getElem?_set_self (by rw [a_ws_len]; exact hi)]
    simp only [a_ws, List.getElem?_mapIdx, h, Option.map_some, a_ce]
    congr 4
    apply List.ext_getElem?
    intro b
    by_cases hb : b = k
    · subst hb
      have hbl : b < fs.length := (List.getElem?_eq_some_iff.mp hk).1
      rw [List.getElem?_set_self (by simpa using hbl), List.getElem?_mapIdx, hk]
      simp [a_fv, a_up]
    · rw [List.getElem?_set_ne (Ne.symm hb), List.getElem?_mapIdx, List.getElem?_mapIdx]
      cases fs[b]? with
      | none => rfl
      | some w => cases w <;> simp [a_fv, a_up, hb]
  · rw [List.getElem?_set_ne (Ne.symm hj)]
    simp only [a_ws, List.getElem?_mapIdx, a_up_ne hj]
theorem a_ws_aput {ad : Nat → Nat} {cA : Nat → ClassId} {L : List aC} {σ : aS} {Z : va_W} {i t n k : Nat} {v : Int32} (h : L[i]? = some (.inr (t, n))) :
    (a_ws ad cA L σ ++ Z).set i (ad i, .inl (cA t, n, .inl (upd (σ i) k v))) = a_ws ad cA L (a_up σ i k v) ++ Z := by
  have hi : i < L.length := (List.getElem?_eq_some_iff.mp h).1
  rw [List.set_append_left _ _ (by rw [a_ws_len]; exact hi)]
  congr 1
  apply List.ext_getElem?
  intro j
  by_cases hj : j = i
  · subst hj
    rw [List.getElem?_set_self (by rw [a_ws_len]; exact hi)]
    simp only [a_ws, List.getElem?_mapIdx, h, Option.map_some, a_ce, a_up_row]
  · rw [List.getElem?_set_ne (Ne.symm hj)]
    simp only [a_ws, List.getElem?_mapIdx, a_up_ne hj]
/-- places of the lists' objects, of the texts, of the script -/
def a_A (X : aX) : Nat → Prop := fun q => X.2.2.2.1 ≤ q
def a_Wd (X : aX) (ad : Nat → Nat) (L : List aC) (σ : aS) (z : aZ) (H : Heap) : Prop := ∃ Z : va_W, va_P X.2.1 vwCl (a_ws ad X.2.2.1 L σ ++ Z) H ∧ va_D (a_A X) (a_ws ad X.2.2.1 L σ ++ Z) ∧ X.2.2.2.2.2 ad z Z
def a_tys (cA : Nat → ClassId) : List (ClassId × FieldType) := [(cA 0, .byte), (cA 1, .char), (cA 2, .int), (cA 3, .boolean), (cA 4, .object "java/lang/Object"), (cA 5, .long)]
def a_Pr (X : aX) (ad : Nat → Nat) (L : List aC) (σ : aS) (z : aZ) (U : State) : Prop := X.2.2.2.1 ≤ U.heap.size ∧ va_K X.2.1 vwCl (a_tys X.2.2.1) U ∧ X.2.2.2.2.1 U U.heap ∧ a_Wd X ad L σ z U.heap
def lw_g : List Cond := lw_tbl.filter goodWord
def a_wsM (k : aM) : List Cond := .code k.1 k.2.1 k.2.2.1 k.2.2.2.1 :: lw_g
def a_rm (k : aM) : Room := { frames := k.2.2.2.2.1, cells := k.2.2.2.2.2.1, slots := k.2.2.2.2.2.2, locals := 60 * k.2.2.2.2.1 }
def a_Qc (X : aX) (ad : Nat → Nat) (L : List aC) (K : aS → aZ → Option Value → Prop) : Array Value → State → Outcome → State → Prop := fun _ st o t =>
  (∃ (σ : aS) (z : aZ) (r : Option Value), o = .returned (r.map (a_cv ad)) ∧ K σ z r ∧ a_Wd X ad L σ z t.heap) ∧ va_F (a_A X) st t
/-- a method called with these arguments in this state comes back, and K holds of the state then and of the answer -/
def a_Meets (X : aX) (ad : Nat → Nat) (L : List aC) (k : aM) (σ : aS) (z : aZ) (av : List Value) (K : aS → aZ → Option Value → Prop) : Prop :=
  Met X.1 k.1 (a_wsM k) (a_rm k) (va_Pc (av.map (a_cv ad)) (a_Pr X ad L σ z)) (a_Qc X ad L K) k.2.2.2.2.2.1 k.2.2.2.2.2.2 (a_A X)
theorem a_g_in {w : Cond} {k : aM} (h : w ∈ lw_g) : w ∈ a_wsM k := List.mem_cons_of_mem _ h
theorem a_g_of {w : Cond} (h : (decide (w ∈ lw_tbl) && goodWord w) = true) : w ∈ lw_g := by
  simp only [Bool.and_eq_true, decide_eq_true_eq] at h
  exact List.mem_filter.mpr ⟨h.1, h.2⟩
theorem a_g_good {k k' : aM} (h : Cond.code k'.1 k'.2.1 k'.2.2.1 k'.2.2.2.1 ∈ lw_g) : GoodIn (a_wsM k) (a_wsM k') := by
  intro w hw
  have h1 : w ∈ lw_g := by
    rcases List.mem_cons.mp hw with rfl | h2
    · exact h
    · exact h2
  exact ⟨a_g_in h1, good_of_word (List.mem_filter.mp h1).2⟩
/-- the classes' own words -/
theorem a_cls_in : ∀ q ∈ vwCl, ∀ w ∈ u_ws q.1 q.2.1 q.2.2, w ∈ lw_g := by
  have h : vwCl.all (fun q => (u_ws q.1 q.2.1 q.2.2).all (fun w => decide (w ∈ lw_tbl) && goodWord w)) = true := by decide +kernel
  intro q hq w hw
  exact a_g_of (List.all_eq_true.mp (List.all_eq_true.mp h q hq) w hw)
def a_ty (q : vw_C) (k : Nat) : FieldType := (parseFieldDescriptor (q.2.1 k).2.2.1).getD .int
theorem a_cls_ty : ∀ q ∈ vwCl, ∀ k, k < q.2.2 → parseFieldDescriptor (q.2.1 k).2.2.1 = some (a_ty q k) := by
  have h : vwCl.all (fun q => (List.range q.2.2).all (fun k => (parseFieldDescriptor (q.2.1 k).2.2.1).isSome)) = true := by decide +kernel
  intro q hq k hk
  have h1 := List.all_eq_true.mp (List.all_eq_true.mp h q hq) k (List.mem_range.mpr hk)
  obtain ⟨t, ht⟩ := Option.isSome_iff_exists.mp h1
  simp [a_ty, ht]
theorem a_cls_nm : ∀ q ∈ vwCl, ∀ a, a < q.2.2 → ∀ b, b < q.2.2 → a ≠ b → (q.2.1 a).2.1 ≠ (q.2.1 b).2.1 := by
  have h : vwCl.all (fun q => (List.range q.2.2).all (fun a => (List.range q.2.2).all (fun b => decide (a ≠ b → (q.2.1 a).2.1 ≠ (q.2.1 b).2.1)))) = true := by decide +kernel
  intro q hq a ha b hb
  exact of_decide_eq_true (List.all_eq_true.mp (List.all_eq_true.mp (List.all_eq_true.mp h q hq) a (List.mem_range.mpr ha)) b (List.mem_range.mpr hb))
