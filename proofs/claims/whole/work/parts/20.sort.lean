/-! The order is one, and there is one list in order -/
theorem lx_neg : ∀ (x y : List Nat), lx y x = - lx x y := by
  intro x
  induction x with
  | nil => intro y; cases y <;> rfl
  | cons a x ih =>
    intro y
    cases y with
    | nil => rfl
    | cons b y =>
      simp only [lx]
      by_cases h : a = b
      · rw [if_pos h, if_pos h.symm]; exact ih y
      · rw [if_neg h, if_neg (Ne.symm h)]
        by_cases h2 : a < b
        · rw [if_pos h2, if_neg (by omega)]; rfl
        · rw [if_neg h2, if_pos (by omega)]
theorem lx_eq : ∀ (x y : List Nat), lx x y = 0 → x = y := by
  intro x
  induction x with
  | nil => intro y h; cases y with
    | nil => rfl
    | cons b y => simp [lx] at h
  | cons a x ih =>
    intro y h
    cases y with
    | nil => simp [lx] at h
    | cons b y =>
      simp only [lx] at h
      split at h
      · rename_i e; rw [e, ih y h]
      · split at h <;> omega
theorem lx_rf : ∀ (x : List Nat), lx x x = 0 := by
  intro x
  induction x with
  | nil => rfl
  | cons a x ih => simp only [lx, if_true]; exact ih
theorem lx_tr : ∀ (x y z : List Nat), lx x y < 0 → lx y z < 0 → lx x z < 0 := by
  intro x
  induction x with
  | nil =>
    intro y z h1 h2
    cases z with
    | nil => cases y with
      | nil => simp [lx] at h1
      | cons b y => simp [lx] at h2
    | cons c z => simp [lx]
  | cons a x ih =>
    intro y z h1 h2
    cases y with
    | nil => simp [lx] at h1
    | cons b y =>
      cases z with
      | nil => simp [lx] at h2
      | cons c z =>
        simp only [lx] at h1 h2 ⊢
        split at h1
        · rename_i e1
          split at h2
          · rename_i e2
            rw [if_pos (e1.trans e2)]
            exact ih y z h1 h2
          · rename_i e2
            split at h2
            · rw [if_neg (by omega), if_pos (by omega)]; omega
            · omega
        · rename_i e1
          split at h1
          · split at h2
            · rw [if_neg (by omega), if_pos (by omega)]; omega
            · split at h2
              · rw [if_neg (by omega), if_pos (by omega)]; omega
              · omega
          · omega
section Bf
variable {recs : mR}
theorem bef_as {a b : Nat} (h : bef recs a b = true) : bef recs b a = false := by
  unfold bef at h ⊢
  have e := lx_neg (kyO recs a) (kyO recs b)
  split at h
  · rename_i h0
    rw [if_pos (by omega)]
    split at h
    · rename_i h1
      rw [if_pos h1.symm]
      simp at h ⊢
      omega
    · rename_i h1
      rw [if_neg (Ne.symm h1)]
      simp at h ⊢
      omega
  · rename_i h0
    rw [if_neg (by omega)]
    simp at h ⊢
    omega
theorem bef_to {a b : Nat} (h : a ≠ b) (g : bef recs a b = false) : bef recs b a = true := by
  unfold bef at g ⊢
  have e := lx_neg (kyO recs a) (kyO recs b)
  split at g
  · rename_i h0
    rw [if_pos (by omega)]
    split at g
    · rename_i h1
      rw [if_pos h1.symm]
      simp at g ⊢
      omega
    · rename_i h1
      rw [if_neg (Ne.symm h1)]
      simp at g ⊢
      omega
  · rename_i h0
    rw [if_neg (by omega)]
    simp at g ⊢
    omega
theorem bef_tr {a b c : Nat} (h : bef recs a b = true) (g : bef recs b c = true) : bef recs a c = true := by
  unfold bef at h g ⊢
  split at h
  · rename_i h0
    have ek := lx_eq _ _ h0
    rw [ek]
    split at g
    · rename_i g0
      rw [if_pos g0]
      split at h
      · rename_i h1
        rw [h1]
        split at g
        · rename_i g1
          rw [if_pos g1]
          simp at h g ⊢
          omega
        · rename_i g1
          rw [if_neg g1]
          exact g
      · rename_i h1
        split at g
        · rename_i g1
          rw [if_neg (by omega)]
          simp at h ⊢
          omega
        · rename_i g1
          simp at h g
          rw [if_neg (by omega)]
          simp
          omega
    · rename_i g0
      rw [if_neg g0]
      exact g
  · rename_i h0
    simp at h
    split at g
    · rename_i g0
      have ek := lx_eq _ _ g0
      rw [← ek, if_neg h0]
      simpa using h
    · rename_i g0
      simp at g
      have := lx_tr _ _ _ h g
      rw [if_neg (by omega)]
      simpa using this
/-- in order -/
def inO (recs : mR) (l : List Nat) : Prop := l.Pairwise (fun a b => bef recs a b = true)
theorem inO_uniq : ∀ (l l' : List Nat), inO recs l → inO recs l' → l.Perm l' → l = l' := by
  intro l
  induction l with
  | nil => intro l' _ _ hp; exact (List.Perm.nil_eq hp)
  | cons a l ih =>
    intro l' h h' hp
    cases l' with
    | nil => exact absurd hp (by intro q; have := q.length_eq; simp at this)
    | cons b l' =>
      have ha : a ∈ b :: l' := hp.subset List.mem_cons_self
      have hb : b ∈ a :: l := hp.symm.subset List.mem_cons_self
      have hab : a = b := by
        rcases List.mem_cons.mp ha with e | e
        · exact e
        · rcases List.mem_cons.mp hb with e2 | e2
          · exact e2.symm
          · have h1 := (List.pairwise_cons.mp h').1 a e
            have h2 := (List.pairwise_cons.mp h).1 b e2
            rw [bef_as h1] at h2
            cases h2
      subst hab
      rw [ih l' (List.pairwise_cons.mp h).2 (List.pairwise_cons.mp h').2 ((List.perm_cons a).mp hp)]
theorem ins_td {x : Nat} : ∀ {l : List Nat} {p : Nat}, p ≤ l.length → l.insertIdx p x = l.take p ++ x :: l.drop p := by
  intro l
  induction l with
  | nil => intro p h; have e : p = 0 := by simpa using h
           subst e; rfl
  | cons b l ih =>
    intro p h
    cases p with
    | zero => rfl
    | succ p =>
      have h : p ≤ l.length := by simpa using h
      simp only [List.insertIdx_succ_cons, List.take_succ_cons, List.drop_succ_cons, List.cons_append, ih h]
theorem plc_ge {x : Nat} {fl : List Nat} : ∀ p q, plc recs x fl p ≤ q → q < p → bef recs x (fl.getD q 0) = true := by
  intro p
  induction p with
  | zero => intro q _ h; omega
  | succ p ih =>
    intro q h1 h2
    unfold plc at h1
    split at h1
    · rename_i g
      rcases Nat.lt_or_ge q p with h | h
      · exact ih q h1 h
      · have e : q = p := by omega
        rw [e]; exact g
    · omega
theorem plc_lt {x : Nat} {fl : List Nat} : ∀ p, 0 < plc recs x fl p → bef recs x (fl.getD (plc recs x fl p - 1) 0) = false := by
  intro p
  induction p with
  | zero => intro h; simp [plc] at h
  | succ p ih =>
    intro h
    unfold plc at h ⊢
    split at h
    · rename_i g
      rw [if_pos g]
      exact ih h
    · rename_i g
      rw [if_neg g]
      simpa using g
theorem srt_ok : ∀ m, inO recs (srt recs m) ∧ (srt recs m).Perm (List.range m) := by
  intro m
  induction m with
  | zero => exact ⟨List.Pairwise.nil, List.Perm.refl _⟩
  | succ m ih =>
    obtain ⟨h1, h2⟩ := ih
    have hlt := srt_lt (recs := recs) m
    unfold srt
    have hle := plc_le (recs := recs) (x := m) (fl := srt recs m) (srt recs m).length
    have hge := plc_ge (recs := recs) (x := m) (fl := srt recs m) (srt recs m).length
    have hl := plc_lt (recs := recs) (x := m) (fl := srt recs m) (srt recs m).length
    generalize hp : plc recs m (srt recs m) (srt recs m).length = p at hle hge hl ⊢
    generalize srt recs m = l at h1 h2 hlt hle hge hl ⊢
    rw [ins_td hle]
    constructor
    · have htd := List.take_append_drop p l
      have h3 : inO recs (l.take p ++ l.drop p) := by rw [htd]; exact h1
      obtain ⟨q1, q2, q3⟩ := List.pairwise_append.mp h3
      refine List.pairwise_append.mpr ⟨q1, List.pairwise_cons.mpr ⟨fun b hb => ?_, q2⟩, fun a ha b hb => ?_⟩
      · obtain ⟨i, hi⟩ := List.getElem?_of_mem hb
        rw [List.getElem?_drop] at hi
        have hil : p + i < l.length := (List.getElem?_eq_some_iff.mp hi).1
        have := hge (p + i) (by omega) hil
        rw [List.getD_eq_getElem?_getD, hi] at this
        exact this
      · rcases List.mem_cons.mp hb with e | e
        · subst e
          have ham : a < b := hlt a (List.mem_of_mem_take ha)
          have hp0 : 0 < p := by
            rcases Nat.eq_zero_or_pos p with e | e
            · rw [e] at ha; simp at ha
            · exact e
          have hl := hl hp0
          have hpl : p - 1 < l.length := by omega
          have hgd : l.getD (p - 1) 0 ∈ l := by
            rw [List.getD_eq_getElem?_getD, List.getElem?_eq_getElem hpl]
            exact List.getElem_mem _
          have hb2 : bef recs (l.getD (p - 1) 0) b = true := bef_to (by have := hlt _ hgd; omega) hl
          obtain ⟨i, hi⟩ := List.getElem?_of_mem ha
          have hip : i < p := by
            have := (List.getElem?_eq_some_iff.mp hi).1
            simp at this
            omega
          rw [List.getElem?_take_of_lt hip] at hi
          rcases Nat.lt_or_ge i (p - 1) with g | g
          · have hpw := List.pairwise_iff_getElem.mp h1 i (p - 1) (by omega) hpl g
            have ea : l[i]'(by omega) = a := (List.getElem?_eq_some_iff.mp hi).2
            have eb : l.getD (p - 1) 0 = l[p - 1] := by rw [List.getD_eq_getElem?_getD, List.getElem?_eq_getElem hpl]; rfl
            rw [eb] at hb2
            rw [ea] at hpw
            exact bef_tr hpw hb2
          · have e : i = p - 1 := by omega
            subst e
            rw [List.getD_eq_getElem?_getD, hi] at hb2
            exact hb2
        · exact q3 a ha b e
    · rw [List.range_succ]
      have h4 : (l.take p ++ m :: l.drop p).Perm (m :: (l.take p ++ l.drop p)) := List.perm_middle
      rw [List.take_append_drop] at h4
      exact h4.trans ((List.Perm.cons m h2).trans (List.perm_append_singleton m (List.range m)).symm)
/-- two neighbours change places -/
def swp : Nat → List Nat → List Nat
  | 0, x :: y :: r => y :: x :: r
  | k + 1, x :: r => x :: swp k r
  | _, l => l
def invc (recs : mR) : List Nat → Nat
  | [] => 0
  | x :: r => (r.filter (fun y => bef recs y x)).length + invc recs r
theorem swp_perm : ∀ (k : Nat) (l : List Nat), (swp k l).Perm l := by
  intro k
  induction k with
  | zero =>
    intro l
    match l with
    | [] => exact List.Perm.refl _
    | [x] => exact List.Perm.refl _
    | x :: y :: r => exact List.Perm.swap x y r
  | succ k ih =>
    intro l
    match l with
    | [] => exact List.Perm.refl _
    | x :: r => exact List.Perm.cons x (ih r)
theorem swp_at : ∀ (k : Nat) (l : List Nat) (j : Nat), k + 1 < l.length → (swp k l).getD j 0 = if j = k then l.getD (k + 1) 0 else if j = k + 1 then l.getD k 0 else l.getD j 0 := by
  intro k
  induction k with
  | zero =>
    intro l j h
    match l, h with
    | x :: y :: r, _ =>
      match j with
      | 0 => rfl
      | 1 => rfl
      | j + 2 => simp [swp, List.getD]
  | succ k ih =>
    intro l j h
    match l, h with
    | x :: r, h =>
      have h : k + 1 < r.length := by simpa using h
      match j with
      | 0 => simp [swp, List.getD]
      | j + 1 =>
        have := ih r j h
        simp only [swp, List.getD, List.getElem?_cons_succ] at this ⊢
        rw [this]
        simp only [Nat.add_right_cancel_iff]
theorem swp_inv : ∀ (k : Nat) (l : List Nat), k + 1 < l.length → bef recs (l.getD (k + 1) 0) (l.getD k 0) = true → invc recs (swp k l) < invc recs l := by
  intro k
  induction k with
  | zero =>
    intro l h hb
    match l, h with
    | x :: y :: r, _ =>
      have hb : bef recs y x = true := hb
      have hb2 := bef_as hb
      simp only [swp, invc, List.filter_cons, hb, hb2, if_true, Bool.false_eq_true, if_false, List.length_cons]
      omega
  | succ k ih =>
    intro l h hb
    match l, h with
    | x :: r, h =>
      have h : k + 1 < r.length := by simpa using h
      have := ih r h hb
      simp only [swp, invc]
      have hp := ((swp_perm k r).filter (fun y => bef recs y x)).length_eq
      omega
theorem adj_inO {l : List Nat} (hn : ∀ a b : Nat, a < l.length → b < l.length → l.getD a 0 = l.getD b 0 → a = b) (h : ∀ k, k + 1 < l.length → bef recs (l.getD (k + 1) 0) (l.getD k 0) = false) : inO recs l := by
  have step : ∀ k, k + 1 < l.length → bef recs (l.getD k 0) (l.getD (k + 1) 0) = true := fun k hk => bef_to (fun e => by have := hn (k + 1) k hk (by omega) e; omega) (h k hk)
  have far : ∀ d k, k + d + 1 < l.length → bef recs (l.getD k 0) (l.getD (k + d + 1) 0) = true := by
    intro d
    induction d with
    | zero => intro k hk; exact step k hk
    | succ d ih => intro k hk; exact bef_tr (ih k (by omega)) (step (k + d + 1) (by omega))
  refine List.pairwise_iff_getElem.mpr (fun i j hi hj hij => ?_)
  have := far (j - i - 1) i (by omega)
  rw [show i + (j - i - 1) + 1 = j by omega] at this
  rw [List.getD_eq_getElem?_getD, List.getD_eq_getElem?_getD, List.getElem?_eq_getElem hi, List.getElem?_eq_getElem hj] at this
  exact this
end Bf
