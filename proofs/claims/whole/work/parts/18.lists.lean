/-! FilingOrder's records and its list -/
abbrev mR : Type := List (Nat × List Nat)
def rkO (recs : mR) (r : Nat) : Nat := (recs.getD r (0, [])).1
def kyO (recs : mR) (r : Nat) : List Nat := (recs.getD r (0, [])).2
def bef (recs : mR) (a b : Nat) : Bool := if lx (kyO recs a) (kyO recs b) = 0 then (if rkO recs a = rkO recs b then decide (a < b) else decide (rkO recs a < rkO recs b)) else decide (lx (kyO recs a) (kyO recs b) < 0)
def plc (recs : mR) (x : Nat) (fl : List Nat) : Nat → Nat
  | 0 => 0
  | p + 1 => if bef recs x (fl.getD p 0) then plc recs x fl p else p + 1
def srt (recs : mR) : Nat → List Nat
  | 0 => []
  | m + 1 => (srt recs m).insertIdx (plc recs m (srt recs m) (srt recs m).length) m
def rOK (recs : mR) : Prop := recs.length ≤ 60 ∧ ∀ r, r < recs.length → rkO recs r < 4 ∧ kb (kyO recs r)
/-- a record's three cells -/
def isE (L : List aC) (σ : aS) (r : Nat) (rk : Nat) (k : List Nat) : Prop := L[28 + 3 * r]? = some (.inl (3, [.int 0, .int 0, .ref (29 + 3 * r)])) ∧ σ (28 + 3 * r) 0 = nI (r + 1) ∧ σ (28 + 3 * r) 1 = nI rk ∧ isK L σ (29 + 3 * r) k
def cR (L : List aC) (σ : aS) (recs : mR) : Prop := ∀ r, r < recs.length → isE L σ r (rkO recs r) (kyO recs r)
def zi (fl : List Nat) : List Nat := fl.map (fun r => 28 + 3 * r)
theorem zi_len (fl : List Nat) : (zi fl).length = fl.length := by simp [zi]
theorem zi_at {fl : List Nat} {i : Nat} (h : i < fl.length) : (zi fl).getD i 0 = 28 + 3 * fl.getD i 0 := by
  simp [zi, List.getD, List.getElem?_eq_getElem h]
/-- what the lists' own methods answer -/
def a_okZ (X : aX) (ad : Nat → Nat) (L : List aC) : Prop :=
  (∀ (σ : aS) (z : aZ) (K : aS → aZ → Option Value → Prop) (j : Nat) (l : List Nat), z[j]? = some l → K σ z (some (.int (nI l.length))) → a_Meets X ad L mJx4a65c_size_8abf5 σ z [.ref (2000000 + j)] K) ∧
  (∀ (σ : aS) (z : aZ) (K : aS → aZ → Option Value → Prop) (j i : Nat) (l : List Nat), z[j]? = some l → i < l.length → l.length ≤ 60 → K σ z (some (.ref (l.getD i 0))) → a_Meets X ad L mJx4a65c_get_915e3 σ z [.ref (2000000 + j), .int (nI i)] K) ∧
  (∀ (σ : aS) (z : aZ) (K : aS → aZ → Option Value → Prop) (j i v : Nat) (l : List Nat), z[j]? = some l → i ≤ l.length → l.length < 60 → (∃ fs, L[v]? = some (.inl (3, fs))) → K σ (z.set j (l.insertIdx i v)) none → a_Meets X ad L mJx4a65c_add_7a177 σ z [.ref (2000000 + j), .int (nI i), .ref v] K)
def isR (n : Nat) (x : Int32) : Bool := decide (1 ≤ x.toInt) && decide (x.toInt ≤ n)
theorem isR_t {n : Nat} (hn : n ≤ 60) {x : Int32} (h : isR n x = true) : ∃ r, r < n ∧ x = nI (r + 1) := by
  simp [isR] at h
  refine ⟨x.toInt.toNat - 1, by omega, ?_⟩
  apply Int32.toInt_inj.mp
  rw [nI_toInt (by omega)]
  omega
theorem isR_n {n r : Nat} (hn : n ≤ 60) (hr : r < n) : isR n (nI (r + 1)) = true := by
  simp only [isR, nI_toInt (show r + 1 < 2 ^ 31 by omega)]
  simp
  omega
theorem lI_0 {x : Int} : lI x = 0 ↔ x = 0 := by
  unfold lI
  split
  · exact ⟨fun h => absurd h (by decide), fun h => by omega⟩
  · split
    · rename_i h; simp [h]; rfl
    · rename_i h; exact ⟨fun q => absurd q (by decide), fun q => absurd q h⟩
theorem lI_ge {x : Int} : 0 ≤ lI x ↔ 0 ≤ x := by
  unfold lI
  split
  · exact ⟨fun h => absurd h (by decide), fun h => by omega⟩
  · split
    · exact ⟨fun _ => by omega, fun _ => by decide⟩
    · exact ⟨fun _ => by omega, fun _ => by decide⟩
theorem lI_lt {x : Int} : lI x < 0 ↔ x < 0 := by
  unfold lI
  split
  · rename_i h; exact ⟨fun _ => h, fun _ => by decide⟩
  · split
    · rename_i h _; exact ⟨fun q => absurd q (by decide), fun q => absurd q h⟩
    · rename_i h _; exact ⟨fun q => absurd q (by decide), fun q => absurd q h⟩
section Ls
variable {X : aX} {ad : Nat → Nat} {L : List aC} {ns : List Nat} {σ : aS} {z : aZ} {K : aS → aZ → Option Value → Prop} {recs : mR}
theorem t_isBefore (hX : a_okX X) {a b : Nat} (hr : rOK recs) (ha : a < recs.length) (hb : b < recs.length) (hc : cR L σ recs) (hK : K σ z (some (.int (b2i (bef recs a b))))) : a_Meets X ad L mX0_isBefore σ z [.ref (28 + 3 * a), .ref (28 + 3 * b)] K := by
  obtain ⟨a1, a2, a3, a4⟩ := hc a ha
  obtain ⟨b1, b2, b3, b4⟩ := hc b hb
  have ra := (hr.2 a ha).1
  have rb := (hr.2 b hb).1
  have hl := hr.1
  obtain ⟨p', n', ak1, _⟩ := id a4
  refine a_Meets.of hX oX0_isBefore (al0 := [(0, .ref (28 + 3 * a)), (1, .ref (28 + 3 * b))]) rfl rfl (fun AT step => ?_)
  unfold bef at hK
  refine step [] 5 ?_
  refine a_ob_of a1 ?_
  refine a_ob_of b1 ?_
  refine a_ob_of ak1 ?_
  refine t_order hX a4 b4 ?_
  refine ⟨fun g => ?_, fun g => ⟨fun g2 => ?_, fun g2 => ?_⟩⟩
  · rw [lI_0] at g
    rw [if_pos g] at hK
    refine a_ob_of a1 ?_
    refine a_ob_of b1 ?_
    refine ⟨fun g2 => ?_, fun g2 => ?_⟩
    · rw [a3, b3] at g2
      have g2 := (nI_eq (by omega) (by omega)).mp g2
      rw [if_pos g2] at hK
      refine a_ob_of a1 ?_
      refine a_ob_of b1 ?_
      refine ⟨fun g3 => ?_, fun g3 => ?_⟩
      · rw [a2, b2, nI_leI (by omega) (by omega)] at g3
        exact k_b0 hK (by simp; omega)
      · rw [a2, b2, nI_leI (by omega) (by omega)] at g3
        exact k_b1 hK (by simp; omega)
    · rw [a3, b3] at g2
      have g2 : ¬ rkO recs a = rkO recs b := fun q => g2 (by rw [q])
      rw [if_neg g2] at hK
      refine a_ob_of a1 ?_
      refine a_ob_of b1 ?_
      refine ⟨fun g3 => ?_, fun g3 => ?_⟩
      · rw [a3, b3, nI_leI (by omega) (by omega)] at g3
        exact k_b0 hK (by simp; omega)
      · rw [a3, b3, nI_leI (by omega) (by omega)] at g3
        exact k_b1 hK (by simp; omega)
  · rw [lI_0] at g
    rw [lI_ge] at g2
    rw [if_neg g] at hK
    exact k_b0 hK (by simp; omega)
  · rw [lI_0] at g
    rw [lI_ge] at g2
    rw [if_neg g] at hK
    exact k_b1 hK (by simp; omega)
theorem t_isRecord (hX : a_okX X) (hZ : a_okZ X ad (a_LL ns)) {l0 l1 : List Nat} (hl : l0.length ≤ 60) {x : Int32} (hK : K σ [l0, l1] (some (.int (b2i (isR l0.length x))))) : a_Meets X ad (a_LL ns) mX7_isRecord σ [l0, l1] [.ref 0, .int x] K := by
  refine a_Meets.of hX oX7_isRecord (al0 := [(0, .ref 0), (1, .int x)]) rfl rfl (fun AT step => ?_)
  refine step [] 5 ?_
  refine ⟨fun g => ?_, fun g => ⟨⟨0, rfl, by simp⟩, hZ.1 σ _ _ 0 l0 rfl ⟨fun g2 => ?_, fun g2 => ?_⟩⟩⟩
  · rw [Int32.lt_iff_toInt_lt, nI_toInt (by omega)] at g
    exact k_b0 hK (by simp [isR]; omega)
  · rw [Int32.lt_iff_toInt_lt, nI_toInt (by omega)] at g g2
    exact k_b0 hK (by simp [isR]; omega)
  · rw [Int32.lt_iff_toInt_lt, nI_toInt (by omega)] at g g2
    exact k_b1 hK (by simp [isR]; omega)
theorem t_placeFor (hX : a_okX X) (hZ : a_okZ X ad (a_LL ns)) (hr : rOK recs) (hc : cR (a_LL ns) σ recs) {l0 fl : List Nat} {x : Nat} (hx : x < recs.length) (hfl : fl.length ≤ 60) (hfr : ∀ r ∈ fl, r < recs.length) (hK : K σ [l0, zi fl] (some (.int (nI (plc recs x fl fl.length))))) : a_Meets X ad (a_LL ns) mX7_placeFor σ [l0, zi fl] [.ref 0, .ref (28 + 3 * x)] K := by
  have hzl := zi_len fl
  obtain ⟨x1, x2, x3, x4⟩ := hc x hx
  refine a_Meets.of hX oX7_placeFor (al0 := [(0, .ref 0), (1, .ref (28 + 3 * x))]) rfl rfl (fun AT step => ?_)
  have loop : ∀ (p : Nat) (y : Int32), y = nI p → p ≤ fl.length → plc recs x fl p = plc recs x fl fl.length → AT 8 0 0 σ [l0, zi fl] [(0, .ref 0), (1, .ref (28 + 3 * x)), (2, .int y)] [] := by
    intro p
    induction p with
    | zero =>
      intro y hy hp hpl
      subst hy
      refine step [(8, [0, 1, 2])] 5 ?_
      refine ⟨fun g => ?_, fun g => absurd (show nI 0 ≤ 0 by decide) g⟩
      simp only [plc] at hpl
      rw [← hpl] at hK
      exact hK
    | succ p ih =>
      intro y hy hp hpl
      subst hy
      refine step [(8, [0, 1, 2])] 5 ?_
      refine ⟨fun g => ?_, fun g => ⟨⟨1, rfl, by simp⟩, ?_⟩⟩
      · rw [← nI_0, nI_leI (by omega) (by omega)] at g
        omega
      · show a_Meets _ _ _ _ _ _ [.ref (2000000 + 1), .int (nI (p + 1) - nI 1)] _
        rw [pk_sub (by omega), show p + 1 - 1 = p by omega]
        refine hZ.2.1 σ _ _ 1 p (zi fl) rfl (by omega) (by omega) ?_
        rw [zi_at (by omega)]
        have hm : fl.getD p 0 < recs.length := by
          rw [List.getD_eq_getElem?_getD, List.getElem?_eq_getElem (show p < fl.length by omega)]
          exact hfr _ (List.getElem_mem _)
        obtain ⟨y1, y2, y3, y4⟩ := hc _ hm
        refine a_ob_of y1 ?_
        refine a_ob_of x1 ?_
        refine t_isBefore hX hr hx hm hc ?_
        simp only [plc] at hpl
        refine ⟨fun g2 => ?_, fun g2 => ?_⟩
        · rw [b2i_0] at g2
          rw [g2] at hpl
          simp only [Bool.false_eq_true, if_false] at hpl
          rw [← hpl] at hK
          exact hK
        · rw [b2i_0] at g2
          rw [(Bool.not_eq_false _).mp g2] at hpl
          simp only [if_true] at hpl
          exact ih _ (pk_m1 p) (by omega) hpl
  refine step [(8, [0, 1, 2])] 5 ?_
  refine ⟨⟨1, rfl, by simp⟩, hZ.1 σ _ _ 1 (zi fl) rfl ?_⟩
  exact loop fl.length _ (by rw [hzl]) (Nat.le_refl _) rfl
theorem insertIdx_zi {x : Nat} : ∀ {fl : List Nat} {i : Nat}, (zi fl).insertIdx i (28 + 3 * x) = zi (fl.insertIdx i x) := by
  intro fl
  induction fl with
  | nil =>
    intro i
    cases i with
    | zero => rfl
    | succ i => simp [zi, List.insertIdx_succ_nil]
  | cons b r ih =>
    intro i
    cases i with
    | zero => rfl
    | succ i =>
      have := ih (i := i)
      simp only [zi, List.map_cons, List.insertIdx_succ_cons] at this ⊢
      rw [this]
theorem insertIdx_len {fl : List Nat} {i x : Nat} (h : i ≤ fl.length) : (fl.insertIdx i x).length = fl.length + 1 := by
  rw [List.length_insertIdx, if_pos h]
theorem plc_le {x : Nat} {fl : List Nat} : ∀ p, plc recs x fl p ≤ p := by
  intro p
  induction p with
  | zero => exact Nat.le_refl _
  | succ p ih =>
    unfold plc
    split
    · omega
    · exact Nat.le_refl _
theorem srt_len : ∀ m, (srt recs m).length = m := by
  intro m
  induction m with
  | zero => rfl
  | succ m ih =>
    unfold srt
    rw [insertIdx_len (plc_le _), ih]
theorem srt_lt : ∀ m, ∀ r ∈ srt recs m, r < m := by
  intro m
  induction m with
  | zero => intro r h; simp [srt] at h
  | succ m ih =>
    intro r h
    unfold srt at h
    rw [List.mem_insertIdx (plc_le _)] at h
    rcases h with h | h
    · omega
    · have := ih r h; omega
theorem t_file (hX : a_okX X) (hZ : a_okZ X ad (a_LL ns)) (hr : rOK recs) (hc : cR (a_LL ns) σ recs) {m : Nat} (hm : m ≤ recs.length) (hK : K σ [zi (List.range recs.length), zi (srt recs recs.length)] (some (.int (nI recs.length)))) : a_Meets X ad (a_LL ns) mX7_file σ [zi (List.range recs.length), zi (srt recs m)] [.ref 0] K := by
  have hl := hr.1
  have hz0 : (zi (List.range recs.length)).length = recs.length := by rw [zi_len, List.length_range]
  refine a_Meets.of hX oX7_file (al0 := [(0, .ref 0)]) rfl rfl (fun AT step => ?_)
  have loop : ∀ (n i cs ss : Nat) (y : Int32), y = nI i → i + n = recs.length → cs ≤ i → ss ≤ 120 * i → AT 8 cs ss σ [zi (List.range recs.length), zi (srt recs i)] [(0, .ref 0), (1, .int y)] [] := by
    intro n
    induction n with
    | zero =>
      intro i cs ss y hy hi hcs hss
      subst hy
      have hz1 : (zi (srt recs i)).length = i := by rw [zi_len, srt_len]
      refine step [(8, [0, 1])] 5 ?_
      refine ⟨⟨0, rfl, by simp⟩, hZ.1 σ _ _ 0 _ rfl ⟨fun g => ?_, fun g => ?_⟩⟩
      · refine ⟨⟨1, rfl, by simp⟩, hZ.1 σ _ _ 1 _ rfl ?_⟩
        rw [hz1]
        have e : i = recs.length := by omega
        rw [e]
        exact hK
      · rw [hz0, nI_leI (by omega) (by omega)] at g
        omega
    | succ n ih =>
      intro i cs ss y hy hi hcs hss
      subst hy
      have hz1 : (zi (srt recs i)).length = i := by rw [zi_len, srt_len]
      have hi2 : i < recs.length := by omega
      obtain ⟨y1, y2, y3, y4⟩ := hc i hi2
      refine step [(8, [0, 1])] 5 ?_
      refine ⟨⟨0, rfl, by simp⟩, hZ.1 σ _ _ 0 _ rfl ⟨fun g => ?_, fun g => ?_⟩⟩
      · rw [hz0, nI_leI (by omega) (by omega)] at g
        omega
      · refine ⟨⟨0, rfl, by simp⟩, hZ.2.1 σ _ _ 0 i _ rfl (by omega) (by omega) ?_⟩
        rw [zi_at (by simpa using hi2)]
        have er : (List.range recs.length).getD i 0 = i := by simp [List.getD, hi2]
        rw [er]
        refine a_ob_of y1 ?_
        refine t_placeFor hX hZ hr hc hi2 (by rw [srt_len]; omega) (fun r hr2 => by have := srt_lt i r hr2; omega) ?_
        rw [srt_len]
        refine ⟨⟨1, rfl, by simp⟩, ⟨by show cs + 1 ≤ 60; omega, by show ss + 120 ≤ 7200; omega⟩, ?_⟩
        refine hZ.2.2 σ _ _ 1 _ _ (zi (srt recs i)) rfl (by rw [hz1]; exact plc_le i) (by omega) ⟨_, y1⟩ ?_
        rw [insertIdx_zi]
        have es : (srt recs i).insertIdx (plc recs i (srt recs i) i) i = srt recs (i + 1) := by
          show _ = (srt recs i).insertIdx (plc recs i (srt recs i) (srt recs i).length) i
          rw [srt_len]
        rw [es]
        exact ih (i + 1) (cs + 1) (ss + 120) _ (nI_add i 1) (by omega) (by omega) (by omega)
  refine step [(8, [0, 1])] 5 ?_
  refine ⟨⟨1, rfl, by simp⟩, hZ.1 σ _ _ 1 _ rfl ?_⟩
  have hz1 : (zi (srt recs m)).length = m := by rw [zi_len, srt_len]
  exact loop (recs.length - m) m 0 0 _ (by rw [hz1]) (by omega) (by omega) (by omega)
end Ls
