/-! FilingOrder: browse, seek, compare, equal, number -/
def pOf (fl : List Nat) (x : Int32) : Nat → Nat → Option Nat
  | _, 0 => none
  | p, n + 1 => if nI (fl.getD p 0 + 1) = x then some p else pOf fl x (p + 1) n
def mBr (fl : List Nat) (i : Int32) (o : Option Nat) : Int32 := match o with
  | none => nI 0
  | some p => if 0 ≤ (p : Int) + i.toInt ∧ (p : Int) + i.toInt < fl.length then nI (fl.getD ((p : Int) + i.toInt).toNat 0 + 1) else nI 0
def mSk (recs : mR) (key : List Nat) (fl : List Nat) : Nat → Nat → Int32
  | _, 0 => nI 0
  | p, n + 1 => if 0 ≤ lx (kyO recs (fl.getD p 0)) key then nI (fl.getD p 0 + 1) else mSk recs key fl (p + 1) n
def mCm (recs : mR) (x y : Int32) : Int32 := if (isR recs.length x && isR recs.length y) = true then lI (lx (kyO recs (x.toInt.toNat - 1)) (kyO recs (y.toInt.toNat - 1))) else -2
def mEl (recs : mR) (x : Nat) (i : Int32) : Nat → Nat → Nat → Int32
  | _, _, 0 => nI 0
  | b, r, n + 1 => if r ≠ x ∧ lx (kyO recs r) (kyO recs x) = 0 then (if nI b = i then nI (r + 1) else mEl recs x i (b + 1) (r + 1) n) else mEl recs x i b (r + 1) n
def mEq (recs : mR) (x i : Int32) : Int32 := if isR recs.length x = true ∧ 0 ≤ i then mEl recs (x.toInt.toNat - 1) i 0 0 recs.length else nI 0
def mNu (nm : List (Nat × Bool × Nat)) (i k : Int32) : Int32 := if 0 ≤ i.toInt ∧ i.toInt < nm.length then (if k = nI 0 then nI (nm.getD i.toInt.toNat (0, false, 0)).1 else if k = nI 1 then b2i (nm.getD i.toInt.toNat (0, false, 0)).2.1 else if k = nI 2 then nI (nm.getD i.toInt.toNat (0, false, 0)).2.2 else -1) else -1
theorem lg_lt0 (x y : Int64) : lg_cmp x y < 0 ↔ x < y := by
  have h := lg_cmp_ge x y
  constructor
  · intro g
    have : ¬ 0 ≤ lg_cmp x y := by rw [Int32.le_iff_toInt_le]; rw [Int32.lt_iff_toInt_lt] at g; omega
    rw [h] at this
    rw [Int64.lt_iff_toInt_lt]
    rw [Int64.le_iff_toInt_le] at this
    omega
  · intro g
    have : ¬ y ≤ x := by rw [Int64.le_iff_toInt_le]; rw [Int64.lt_iff_toInt_lt] at g; omega
    rw [← h] at this
    rw [Int32.lt_iff_toInt_lt]
    rw [Int32.le_iff_toInt_le] at this
    omega
theorem br_sum {p : Nat} (hp : p ≤ 60) (i : Int32) : ((nI p).toInt64 + i.toInt64).toInt = (p : Int) + i.toInt := by
  have h1 := Int32.le_toInt i
  have h2 := Int32.toInt_lt i
  rw [Int64.toInt_add, Int32.toInt_toInt64, Int32.toInt_toInt64, nI_toInt (by omega)]
  apply Int.bmod_eq_of_le
  · simp at h1 ⊢; omega
  · simp at h2 ⊢; omega
theorem br_l2i {p : Nat} (hp : p ≤ 60) {i : Int32} {j : Nat} (hj : (p : Int) + i.toInt = j) (hj2 : j < 100) : ((nI p).toInt64 + i.toInt64).toInt32 = nI j := by
  have e : (nI p).toInt64 + i.toInt64 = lN j := by
    apply Int64.toInt_inj.mp
    rw [br_sum hp, hj, lN_toInt (by omega)]
  rw [e, lN_i]
section Ak
variable {X : aX} {ad : Nat → Nat} {ns : List Nat} {σ : aS} {K : aS → aZ → Option Value → Prop} {recs : mR} {l0 fl : List Nat}
theorem fl_lt {fl : List Nat} {n p : Nat} (h : ∀ r ∈ fl, r < n) (hp : p < fl.length) : fl.getD p 0 < n := by
  rw [List.getD_eq_getElem?_getD, List.getElem?_eq_getElem hp]
  exact h _ (List.getElem_mem _)
theorem pOf_lt {x : Int32} : ∀ (n p q : Nat), pOf fl x p n = some q → p ≤ q ∧ q < p + n := by
  intro n
  induction n with
  | zero => intro p q h; cases h
  | succ n ih =>
    intro p q h
    unfold pOf at h
    split at h
    · cases h; omega
    · have := ih (p + 1) q h; omega
theorem t_placeOf (hX : a_okX X) (hZ : a_okZ X ad (a_LL ns)) (hr : rOK recs) (hc : cR (a_LL ns) σ recs) (hfl : fl.length ≤ 60) (hfr : ∀ r ∈ fl, r < recs.length) {x : Int32} (hN : pOf fl x 0 fl.length = none → K σ [l0, zi fl] (some (.int (-1)))) (hS : ∀ p, pOf fl x 0 fl.length = some p → K σ [l0, zi fl] (some (.int (nI p)))) : a_Meets X ad (a_LL ns) mX7_placeOf σ [l0, zi fl] [.ref 0, .int x] K := by
  have hzl := zi_len fl
  refine a_Meets.of hX oX7_placeOf (al0 := [(0, .ref 0), (1, .int x)]) rfl rfl (fun AT step => ?_)
  have loop : ∀ (n p : Nat) (y : Int32), y = nI p → p + n = fl.length → pOf fl x p n = pOf fl x 0 fl.length → AT 2 0 0 σ [l0, zi fl] [(0, .ref 0), (1, .int x), (2, .int y)] [] := by
    intro n
    induction n with
    | zero =>
      intro p y hy hp hpo
      subst hy
      refine step [(2, [0, 1, 2])] 5 ?_
      refine ⟨⟨1, rfl, by simp⟩, hZ.1 σ _ _ 1 (zi fl) rfl ⟨fun g => ?_, fun g => ?_⟩⟩
      · exact hN hpo.symm
      · rw [hzl, nI_leI (by omega) (by omega)] at g
        omega
    | succ n ih =>
      intro p y hy hp hpo
      subst hy
      have hm := fl_lt hfr (show p < fl.length by omega)
      obtain ⟨y1, y2, y3, y4⟩ := hc _ hm
      refine step [(2, [0, 1, 2])] 5 ?_
      refine ⟨⟨1, rfl, by simp⟩, hZ.1 σ _ _ 1 (zi fl) rfl ⟨fun g => ?_, fun g => ⟨⟨1, rfl, by simp⟩, hZ.2.1 σ _ _ 1 p (zi fl) rfl (by omega) (by omega) ?_⟩⟩⟩
      · rw [hzl, nI_leI (by omega) (by omega)] at g
        omega
      · rw [zi_at (by omega)]
        refine a_ob_of y1 ?_
        refine a_ob_of y1 ?_
        simp only [pOf] at hpo
        refine ⟨fun g2 => ?_, fun g2 => ?_⟩
        · rw [y2] at g2
          rw [if_neg g2] at hpo
          exact ih (p + 1) _ (nI_add p 1) (by omega) hpo
        · rw [y2] at g2
          rw [if_pos g2] at hpo
          exact hS p hpo.symm
  refine step [(2, [0, 1, 2])] 5 ?_
  exact loop fl.length 0 _ rfl (Nat.zero_add _) rfl
theorem t_browse (hX : a_okX X) (hZ : a_okZ X ad (a_LL ns)) (hr : rOK recs) (hc : cR (a_LL ns) σ recs) (hfl : fl.length ≤ 60) (hfr : ∀ r ∈ fl, r < recs.length) {x i : Int32} (hK : K σ [l0, zi fl] (some (.int (mBr fl i (pOf fl x 0 fl.length))))) : a_Meets X ad (a_LL ns) mX7_browse σ [l0, zi fl] [.ref 0, .int x, .int i] K := by
  have hzl := zi_len fl
  refine a_Meets.of hX oX7_browse (al0 := [(0, .ref 0), (1, .int x), (2, .int i)]) rfl rfl (fun AT step => ?_)
  refine step [] 5 ?_
  refine t_placeOf hX hZ hr hc hfl hfr (fun hN => ?_) (fun p hS => ?_)
  · rw [hN] at hK
    refine ⟨fun g => absurd rfl g, fun _ => ?_⟩
    exact hK
  · have hp := pOf_lt _ _ _ hS
    rw [hS] at hK
    simp only [mBr] at hK
    refine ⟨fun _ => ?_, fun g => ?_⟩
    · refine ⟨fun g => ?_, fun g => ?_⟩
      · rw [lg_lt0, Int64.lt_iff_toInt_lt, br_sum (by omega)] at g
        rw [if_neg (by simp at g; omega)] at hK
        exact hK
      · rw [lg_lt0, Int64.lt_iff_toInt_lt, br_sum (by omega)] at g
        refine ⟨⟨1, rfl, by simp⟩, hZ.1 σ _ _ 1 (zi fl) rfl ⟨fun g2 => ?_, fun g2 => ?_⟩⟩
        · rw [lg_lt0, Int64.lt_iff_toInt_lt, br_sum (by omega), Int32.toInt_toInt64, hzl, nI_toInt (by omega)] at g2
          rw [if_pos (by simp at g; omega)] at hK
          obtain ⟨j, hj⟩ : ∃ j : Nat, (p : Int) + i.toInt = j := ⟨((p : Int) + i.toInt).toNat, by simp at g; omega⟩
          rw [hj] at hK g2
          rw [Int.toNat_natCast] at hK
          have hm := fl_lt hfr (show j < fl.length by omega)
          obtain ⟨y1, y2, y3, y4⟩ := hc _ hm
          refine ⟨⟨1, rfl, by simp⟩, ?_⟩
          show a_Meets _ _ _ _ _ _ [.ref (2000000 + 1), .int ((nI p).toInt64 + i.toInt64).toInt32] _
          rw [br_l2i (by omega) hj (by omega)]
          refine hZ.2.1 σ _ _ 1 j (zi fl) rfl (by omega) (by omega) ?_
          rw [zi_at (by omega)]
          refine a_ob_of y1 ?_
          refine a_ob_of y1 ?_
          show K _ _ (some (.int (σ (28 + 3 * fl.getD j 0) 0)))
          rw [y2]
          exact hK
        · rw [lg_lt0, Int64.lt_iff_toInt_lt, br_sum (by omega), Int32.toInt_toInt64, hzl, nI_toInt (by omega)] at g2
          rw [if_neg (by omega)] at hK
          exact hK
    · exact absurd (congrArg Int32.toInt g) (by rw [nI_toInt (by omega)]; simp)
theorem t_seek (hX : a_okX X) (hZ : a_okZ X ad (a_LL ns)) (hr : rOK recs) (hc : cR (a_LL ns) σ recs) (hfl : fl.length ≤ 60) (hfr : ∀ r ∈ fl, r < recs.length) {key : List Nat} (hk : isK (a_LL ns) σ 9 key) (hK : K σ [l0, zi fl] (some (.int (mSk recs key fl 0 fl.length)))) : a_Meets X ad (a_LL ns) mX7_seek σ [l0, zi fl] [.ref 0] K := by
  have hzl := zi_len fl
  refine a_Meets.of hX oX7_seek (al0 := [(0, .ref 0)]) rfl rfl (fun AT step => ?_)
  have loop : ∀ (n p : Nat) (y : Int32), y = nI p → p + n = fl.length → mSk recs key fl p n = mSk recs key fl 0 fl.length → AT 2 0 0 σ [l0, zi fl] [(0, .ref 0), (1, .int y)] [] := by
    intro n
    induction n with
    | zero =>
      intro p y hy hp hpo
      subst hy
      refine step [(2, [0, 1])] 5 ?_
      refine ⟨⟨1, rfl, by simp⟩, hZ.1 σ _ _ 1 (zi fl) rfl ⟨fun g => ?_, fun g => ?_⟩⟩
      · rw [← hpo] at hK
        exact hK
      · rw [hzl, nI_leI (by omega) (by omega)] at g
        omega
    | succ n ih =>
      intro p y hy hp hpo
      subst hy
      have hm := fl_lt hfr (show p < fl.length by omega)
      obtain ⟨y1, y2, y3, y4⟩ := hc _ hm
      obtain ⟨p', n', yk1, _⟩ := id y4
      refine step [(2, [0, 1])] 5 ?_
      refine ⟨⟨1, rfl, by simp⟩, hZ.1 σ _ _ 1 (zi fl) rfl ⟨fun g => ?_, fun g => ⟨⟨1, rfl, by simp⟩, hZ.2.1 σ _ _ 1 p (zi fl) rfl (by omega) (by omega) ?_⟩⟩⟩
      · rw [hzl, nI_leI (by omega) (by omega)] at g
        omega
      · rw [zi_at (by omega)]
        refine a_ob_of y1 ?_
        refine a_ob_of y1 ?_
        refine a_ob_of yk1 ?_
        refine t_order hX y4 hk ?_
        simp only [mSk] at hpo
        refine ⟨fun g2 => ?_, fun g2 => ?_⟩
        · rw [lI_lt] at g2
          rw [if_neg (by omega)] at hpo
          exact ih (p + 1) _ (nI_add p 1) (by omega) hpo
        · rw [lI_lt] at g2
          rw [if_pos (by omega)] at hpo
          rw [← hpo] at hK
          refine a_ob_of y1 ?_
          show K _ _ (some (.int (σ (28 + 3 * fl.getD p 0) 0)))
          rw [y2]
          exact hK
  refine step [(2, [0, 1])] 5 ?_
  exact loop fl.length 0 _ rfl (Nat.zero_add _) rfl
theorem t_compare (hX : a_okX X) (hZ : a_okZ X ad (a_LL ns)) (hr : rOK recs) (hc : cR (a_LL ns) σ recs) {l1 : List Nat} {x y : Int32} (hK : K σ [zi (List.range recs.length), l1] (some (.int (mCm recs x y)))) : a_Meets X ad (a_LL ns) mX7_compare σ [zi (List.range recs.length), l1] [.ref 0, .int x, .int y] K := by
  have hl := hr.1
  have hz0 : (zi (List.range recs.length)).length = recs.length := by rw [zi_len, List.length_range]
  refine a_Meets.of hX oX7_compare (al0 := [(0, .ref 0), (1, .int x), (2, .int y)]) rfl rfl (fun AT step => ?_)
  unfold mCm at hK
  refine step [] 5 ?_
  refine t_isRecord hX hZ (by omega) ?_
  rw [hz0]
  refine ⟨fun g => ?_, fun g => ?_⟩
  · rw [b2i_0] at g
    rw [g, Bool.false_and, if_neg (by decide)] at hK
    exact hK
  · rw [b2i_0] at g
    have g := (Bool.not_eq_false _).mp g
    refine t_isRecord hX hZ (by omega) ?_
    rw [hz0]
    refine ⟨fun g2 => ?_, fun g2 => ?_⟩
    · rw [b2i_0] at g2
      have g2 := (Bool.not_eq_false _).mp g2
      rw [g, g2, Bool.true_and, if_pos rfl] at hK
      obtain ⟨a, ha, rfl⟩ := isR_t (by omega) g
      obtain ⟨b, hb, rfl⟩ := isR_t (by omega) g2
      rw [nI_toInt (by omega), nI_toInt (by omega), show ((a + 1 : Nat) : Int).toNat - 1 = a by omega, show ((b + 1 : Nat) : Int).toNat - 1 = b by omega] at hK
      obtain ⟨a1, a2, a3, a4⟩ := hc a ha
      obtain ⟨b1, b2, b3, b4⟩ := hc b hb
      obtain ⟨p', n', ak1, _⟩ := id a4
      refine ⟨⟨0, rfl, by simp⟩, ?_⟩
      show a_Meets _ _ _ _ _ _ [.ref (2000000 + 0), .int (nI (a + 1) - nI 1)] _
      rw [pk_sub (by omega), show a + 1 - 1 = a by omega]
      refine hZ.2.1 σ _ _ 0 a _ rfl (by omega) (by omega) ?_
      rw [zi_at (by simpa using ha), show (List.range recs.length).getD a 0 = a by simp [List.getD, ha]]
      refine a_ob_of a1 ?_
      refine a_ob_of a1 ?_
      refine ⟨⟨0, rfl, by simp⟩, ?_⟩
      show a_Meets _ _ _ _ _ _ [.ref (2000000 + 0), .int (nI (b + 1) - nI 1)] _
      rw [pk_sub (by omega), show b + 1 - 1 = b by omega]
      refine hZ.2.1 σ _ _ 0 b _ rfl (by omega) (by omega) ?_
      rw [zi_at (by simpa using hb), show (List.range recs.length).getD b 0 = b by simp [List.getD, hb]]
      refine a_ob_of b1 ?_
      refine a_ob_of b1 ?_
      refine a_ob_of ak1 ?_
      refine t_order hX a4 b4 ?_
      exact hK
    · rw [b2i_0] at g2
      rw [g2, Bool.and_false, if_neg (by decide)] at hK
      exact hK
theorem t_equal (hX : a_okX X) (hZ : a_okZ X ad (a_LL ns)) (hr : rOK recs) (hc : cR (a_LL ns) σ recs) {l1 : List Nat} {x i : Int32} (hK : K σ [zi (List.range recs.length), l1] (some (.int (mEq recs x i)))) : a_Meets X ad (a_LL ns) mX7_equal σ [zi (List.range recs.length), l1] [.ref 0, .int x, .int i] K := by
  have hl := hr.1
  have hz0 : (zi (List.range recs.length)).length = recs.length := by rw [zi_len, List.length_range]
  refine a_Meets.of hX oX7_equal (al0 := [(0, .ref 0), (1, .int x), (2, .int i)]) rfl rfl (fun AT step => ?_)
  unfold mEq at hK
  refine step [(14, [0, 1, 2])] 5 ?_
  refine t_isRecord hX hZ (by omega) ?_
  rw [hz0]
  refine ⟨fun g => ?_, fun g => ⟨fun g2 => ?_, fun g2 => ?_⟩⟩
  · rw [b2i_0] at g
    rw [if_neg (by rw [g]; simp)] at hK
    exact hK
  · rw [b2i_0] at g
    have g := (Bool.not_eq_false _).mp g
    rw [if_pos ⟨g, g2⟩] at hK
    obtain ⟨a, ha, rfl⟩ := isR_t (by omega) g
    rw [nI_toInt (by omega), show ((a + 1 : Nat) : Int).toNat - 1 = a by omega] at hK
    obtain ⟨a1, a2, a3, a4⟩ := hc a ha
    have loop : ∀ (n r b : Nat) (u v : Int32), u = nI b → v = nI r → r + n = recs.length → mEl recs a i b r n = mEl recs a i 0 0 recs.length → AT 37 0 0 σ [zi (List.range recs.length), l1] [(0, .ref 0), (1, .int (nI (a + 1))), (2, .int i), (3, .ref (29 + 3 * a)), (4, .int u), (5, .int v)] [] := by
      intro n
      induction n with
      | zero =>
        intro r b u v hu hv hrn hm
        subst hu
        subst hv
        refine step [(37, [0, 1, 2, 3, 4, 5]), (99, [0, 1, 2, 3, 4, 5])] 5 ?_
        refine ⟨⟨0, rfl, by simp⟩, hZ.1 σ _ _ 0 _ rfl ⟨fun g3 => ?_, fun g3 => ?_⟩⟩
        · rw [← hm] at hK
          exact hK
        · rw [hz0, nI_leI (by omega) (by omega)] at g3
          omega
      | succ n ih =>
        intro r b u v hu hv hrn hm
        subst hu
        subst hv
        have hrl : r < recs.length := by omega
        obtain ⟨r1, r2, r3, r4⟩ := hc r hrl
        obtain ⟨p', n', rk1, _⟩ := id r4
        simp only [mEl] at hm
        have nxt : ∀ (b' : Nat) (u : Int32), u = nI b' → mEl recs a i b' (r + 1) n = mEl recs a i 0 0 recs.length → AT 99 0 0 σ [zi (List.range recs.length), l1] [(0, .ref 0), (1, .int (nI (a + 1))), (2, .int i), (3, .ref (29 + 3 * a)), (4, .int u), (5, .int (nI r))] [] := by
          intro b' u hu hm'
          refine step [(37, [0, 1, 2, 3, 4, 5])] 5 ?_
          exact ih (r + 1) b' u _ hu (nI_add r 1) (by omega) hm'
        refine step [(37, [0, 1, 2, 3, 4, 5]), (99, [0, 1, 2, 3, 4, 5])] 5 ?_
        refine ⟨⟨0, rfl, by simp⟩, hZ.1 σ _ _ 0 _ rfl ⟨fun g3 => ?_, fun g3 => ⟨⟨0, rfl, by simp⟩, hZ.2.1 σ _ _ 0 r _ rfl (by omega) (by omega) ?_⟩⟩⟩
        · rw [hz0, nI_leI (by omega) (by omega)] at g3
          omega
        · rw [zi_at (by simpa using hrl), show (List.range recs.length).getD r 0 = r by simp [List.getD, hrl]]
          refine a_ob_of r1 ?_
          refine a_ob_of r1 ?_
          refine ⟨fun g4 => ?_, fun g4 => ?_⟩
          · rw [r2] at g4
            have g4 := (nI_eq (by omega) (by omega)).mp g4
            rw [if_neg (fun q => q.1 (by omega))] at hm
            exact nxt b _ rfl hm
          · rw [r2] at g4
            have g4 : ¬ r = a := fun q => g4 (by rw [q])
            refine a_ob_of r1 ?_
            refine a_ob_of rk1 ?_
            refine t_order hX r4 a4 ?_
            refine ⟨fun g5 => ?_, fun g5 => ?_⟩
            · rw [lI_0] at g5
              rw [if_neg (fun q => g5 q.2)] at hm
              exact nxt b _ rfl hm
            · rw [lI_0] at g5
              rw [if_pos ⟨g4, g5⟩] at hm
              refine ⟨fun g6 => ?_, fun g6 => ?_⟩
              · rw [if_neg g6] at hm
                exact nxt (b + 1) _ (nI_add b 1) hm
              · rw [if_pos g6] at hm
                rw [← hm] at hK
                refine a_ob_of r1 ?_
                show K _ _ (some (.int (σ (28 + 3 * r) 0)))
                rw [r2]
                exact hK
    have c14 : AT 14 0 0 σ [zi (List.range recs.length), l1] [(0, .ref 0), (1, .int (nI (a + 1))), (2, .int i)] [] := by
      refine step [(37, [0, 1, 2, 3, 4, 5])] 5 ?_
      refine ⟨⟨0, rfl, by simp⟩, ?_⟩
      show a_Meets _ _ _ _ _ _ [.ref (2000000 + 0), .int (nI (a + 1) - nI 1)] _
      rw [pk_sub (by omega), show a + 1 - 1 = a by omega]
      refine hZ.2.1 σ _ _ 0 a _ rfl (by omega) (by omega) ?_
      rw [zi_at (by simpa using ha), show (List.range recs.length).getD a 0 = a by simp [List.getD, ha]]
      refine a_ob_of a1 ?_
      refine a_ob_of a1 ?_
      exact loop recs.length 0 0 _ _ rfl rfl (Nat.zero_add _) rfl
    exact c14
  · rw [if_neg (fun q => g2 q.2)] at hK
    exact hK
theorem t_tell (hX : a_okX X) {z : aZ} {nm : List (Nat × Bool × Nat)} (hn : cN σ nm) (hnl : nm.length ≤ 40) {i k : Int32} (hK : K σ z (some (.int (mNu nm i k)))) : a_Meets X ad (a_LL ns) mX3_tell σ z [.ref 11, .int i, .int k] K := by
  refine a_Meets.of hX oX3_tell (al0 := [(0, .ref 11), (1, .int i), (2, .int k)]) rfl rfl (fun AT step => ?_)
  unfold mNu at hK
  refine step [(14, [0, 1, 2])] 5 ?_
  refine ⟨fun g => ?_, fun g => ⟨fun g2 => ?_, fun g2 => ?_⟩⟩
  · rw [Int32.lt_iff_toInt_lt] at g
    simp at g
    rw [if_neg (by omega)] at hK
    exact hK
  · rw [hn.1] at g2
    obtain ⟨j, hj, rfl⟩ := nI_of g
    rw [nI_ltI (by omega) (by omega)] at g2
    rw [nI_toInt hj, if_pos (by omega), Int.toNat_natCast] at hK
    have hj2 := hn.2 j g2
    have c14 : AT 14 0 0 σ z [(0, .ref 11), (1, .int (nI j)), (2, .int k)] [] := by
      refine step [] 5 ?_
      refine ⟨⟨fun q => ?_, fun q => ?_, fun q => ?_, trivial⟩, fun q => ?_⟩
      · have q : k = nI 0 := q
        rw [if_pos q] at hK
        refine ⟨j, ⟨by omega, by omega, rfl⟩, ?_⟩
        show K _ _ (some (.int (σ 12 j)))
        rw [hj2.1]
        exact hK
      · have q : k = nI 1 := q
        rw [if_neg (by rw [q]; decide), if_pos q] at hK
        refine ⟨j, ⟨by omega, by omega, rfl⟩, ?_⟩
        refine ⟨fun q2 => ?_, fun q2 => ?_⟩
        · rw [hj2.2.1, b2i_0] at q2
          rw [q2] at hK
          exact hK
        · rw [hj2.2.1, b2i_0] at q2
          rw [(Bool.not_eq_false _).mp q2] at hK
          exact hK
      · have q : k = nI 2 := q
        rw [if_neg (by rw [q]; decide), if_neg (by rw [q]; decide), if_pos q] at hK
        refine ⟨j, ⟨by omega, by omega, rfl⟩, ?_⟩
        show K _ _ (some (.int (σ 14 j)))
        rw [hj2.2.2]
        exact hK
      · have k0 : ¬ k = nI 0 := fun e => by rw [e] at q; exact absurd q (by decide)
        have k1 : ¬ k = nI 1 := fun e => by rw [e] at q; exact absurd q (by decide)
        have k2 : ¬ k = nI 2 := fun e => by rw [e] at q; exact absurd q (by decide)
        rw [if_neg k0, if_neg k1, if_neg k2] at hK
        exact hK
    exact c14
  · rw [hn.1] at g2
    rw [Int32.lt_iff_toInt_lt] at g2
    rw [nI_toInt (by omega)] at g2
    rw [if_neg (by omega)] at hK
    exact hK
end Ak
