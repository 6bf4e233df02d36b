/-! The reference's records and its list -/
def dR (σ : aS) (recs : mR) : Prop := σ 15 16 = nI recs.length ∧ ∀ r, r < recs.length → σ 25 (r + 1) = nI (kyO recs r).length ∧ σ 26 (r + 1) = nI (rkO recs r) ∧ ∀ j, j < (kyO recs r).length → σ 24 (400 * (r + 1) + j) = nI ((kyO recs r).getD j 0)
def dF (σ : aS) (fl : List Nat) : Prop := σ 15 21 = nI fl.length ∧ ∀ k, k < fl.length → σ 27 k = nI (fl.getD k 0 + 1)
def kOf (key : List Nat) (recs : mR) (a : Nat) : List Nat := if a = 0 then key else kyO recs (a - 1)
theorem sg1 (A B : Nat) : (((A : Int) - B < 0) ↔ (if A = B then (0 : Int) else if A < B then -1 else 1) < 0) ∧ (((A : Int) - B = 0) ↔ (if A = B then (0 : Int) else if A < B then -1 else 1) = 0) := by
  by_cases h : A = B
  · rw [if_pos h]; omega
  · rw [if_neg h]
    by_cases h2 : A < B
    · rw [if_pos h2]; omega
    · rw [if_neg h2]; omega
theorem sg2 {A B : Nat} (h : ¬ A = B) : (((A : Int) - B < 0) ↔ (if A < B then (-1 : Int) else 1) < 0) ∧ (((A : Int) - B = 0) ↔ (if A < B then (-1 : Int) else 1) = 0) := by
  by_cases h2 : A < B
  · rw [if_pos h2]; omega
  · rw [if_neg h2]; omega
section Ma
variable {X : aX} {ad : Nat → Nat} {ns : List Nat} {σ : aS} {z : aZ} {K : aS → aZ → Option Value → Prop} {recs : mR} {key : List Nat}
theorem kOf_kb (hr : rOK recs) (hk : kb key) {a : Nat} (ha : a ≤ recs.length) : kb (kOf key recs a) := by
  unfold kOf
  split
  · exact hk
  · exact (hr.2 (a - 1) (by omega)).2
theorem t_morder (hX : a_okX X) (hr : rOK recs) (hk : kb key) (hd : dR σ recs) (hdk : dK σ key) {a b : Nat} (ha : a ≤ recs.length) (hb : b ≤ recs.length)
    (hK : ∀ r : Int32, (r < 0 ↔ lx (kOf key recs a) (kOf key recs b) < 0) → (r = 0 ↔ lx (kOf key recs a) (kOf key recs b) = 0) → K σ z (some (.int r))) : a_Meets X ad (a_LL ns) mX8_order σ z [.ref 15, .int (nI a), .int (nI b)] K := by
  have hl := hr.1
  have ka := kOf_kb hr hk ha
  have kb' := kOf_kb hr hk hb
  have sz : ∀ c, c ≤ recs.length → ¬ c = 0 → σ 25 c = nI (kOf key recs c).length := by
    intro c hc h0
    have := (hd.2 (c - 1) (by omega)).1
    rw [show c - 1 + 1 = c by omega] at this
    unfold kOf
    rw [if_neg h0]
    exact this
  have by' : ∀ c j, c ≤ recs.length → ¬ c = 0 → j < (kOf key recs c).length → σ 24 (400 * c + j) = nI ((kOf key recs c).getD j 0) := by
    intro c j hc h0 hj
    have := (hd.2 (c - 1) (by omega)).2.2 j
    rw [show c - 1 + 1 = c by omega] at this
    unfold kOf at hj ⊢
    rw [if_neg h0] at hj ⊢
    exact this hj
  refine a_Meets.of hX oX8_order (al0 := [(0, .ref 15), (1, .int (nI a)), (2, .int (nI b))]) rfl rfl (fun AT step => ?_)
  have loop : ∀ (n i : Nat) (x : Int32), x = nI i → i + n = min (kOf key recs a).length (kOf key recs b).length → lx ((kOf key recs a).drop i) ((kOf key recs b).drop i) = lx (kOf key recs a) (kOf key recs b) →
      AT 40 0 0 σ z [(0, .ref 15), (1, .int (nI a)), (2, .int (nI b)), (3, .int (nI (kOf key recs a).length)), (4, .int (nI (kOf key recs b).length)), (5, .int x)] [] := by
    intro n
    have la := ka.1
    have lb := kb'.1
    induction n with
    | zero =>
      intro i x hx hi hlx
      subst hx
      have fin : AT 130 0 0 σ z [(3, .int (nI (kOf key recs a).length)), (4, .int (nI (kOf key recs b).length))] [] := by
        rw [lx_end (by omega) (by omega) (by omega)] at hlx
        refine step [] 5 ?_
        have et := pk_sub_toInt (a := (kOf key recs a).length) (b := (kOf key recs b).length) (by omega) (by omega)
        have sg := sg1 (kOf key recs a).length (kOf key recs b).length
        rw [hlx, ← et] at sg
        exact hK _ (by rw [Int32.lt_iff_toInt_lt]; exact sg.1) (by rw [← Int32.toInt_inj]; exact sg.2)
      refine step [(40, [0, 1, 2, 3, 4, 5]), (130, [3, 4])] 5 ?_
      refine ⟨fun g => fin, fun g => ⟨fun g2 => fin, fun g2 => ?_⟩⟩
      rw [nI_leI (by omega) (by omega)] at g g2
      omega
    | succ n ih =>
      intro i x hx hi hlx
      subst hx
      rw [lx_drop (by omega) (by omega)] at hlx
      have b1 := kb_at ka i
      have b2 := kb_at kb' i
      have c109 : ∀ y : Int32, y = nI ((kOf key recs b).getD i 0) → AT 109 0 0 σ z [(0, .ref 15), (1, .int (nI a)), (2, .int (nI b)), (3, .int (nI (kOf key recs a).length)), (4, .int (nI (kOf key recs b).length)), (5, .int (nI i)), (6, .int (nI ((kOf key recs a).getD i 0)))] [.int y] := by
        intro y hy
        subst hy
        refine step [(40, [0, 1, 2, 3, 4, 5])] 5 ?_
        refine ⟨fun g => ?_, fun g => ?_⟩
        · have g := (nI_eq (by omega) (by omega)).mp g
          rw [if_pos g] at hlx
          exact ih (i + 1) _ (nI_add i 1) (by omega) hlx
        · have g : ¬ (kOf key recs a).getD i 0 = (kOf key recs b).getD i 0 := fun e => g (by rw [e])
          rw [if_neg g] at hlx
          have et := pk_sub_toInt (a := (kOf key recs a).getD i 0) (b := (kOf key recs b).getD i 0) (by omega) (by omega)
          have sg := sg2 g
          rw [hlx, ← et] at sg
          exact hK _ (by rw [Int32.lt_iff_toInt_lt]; exact sg.1) (by rw [← Int32.toInt_inj]; exact sg.2)
      have c80 : ∀ y : Int32, y = nI ((kOf key recs a).getD i 0) → AT 80 0 0 σ z [(0, .ref 15), (1, .int (nI a)), (2, .int (nI b)), (3, .int (nI (kOf key recs a).length)), (4, .int (nI (kOf key recs b).length)), (5, .int (nI i))] [.int y] := by
        intro y hy
        subst hy
        refine step [(109, [0, 1, 2, 3, 4, 5, 6])] 5 ?_
        refine ⟨fun g => ?_, fun g => ?_⟩
        · have g0 : ¬ b = 0 := fun e => g (by rw [e]; rfl)
          refine ⟨400 * b + i, ⟨by omega, by omega, by rw [pk_mul, nI_add]⟩, ?_⟩
          exact c109 _ (by' b i hb g0 (by omega))
        · have g0 : b = 0 := (nI_eq (b := 0) (by omega) (by omega)).mp g
          have e0 : kOf key recs b = key := by unfold kOf; rw [if_pos g0]
          refine ⟨i, ⟨by omega, by omega, rfl⟩, ?_⟩
          refine c109 _ ?_
          rw [e0] at hi ⊢
          exact hdk.2 i (by omega)
      refine step [(40, [0, 1, 2, 3, 4, 5]), (130, [3, 4]), (80, [0, 1, 2, 3, 4, 5])] 5 ?_
      refine ⟨fun g => ?_, fun g => ⟨fun g2 => ?_, fun g2 => ⟨fun g3 => ?_, fun g3 => ?_⟩⟩⟩
      · rw [nI_leI (by omega) (by omega)] at g
        omega
      · rw [nI_leI (by omega) (by omega)] at g2
        omega
      · have g0 : ¬ a = 0 := fun e => g3 (by rw [e]; rfl)
        refine ⟨400 * a + i, ⟨by omega, by omega, by rw [pk_mul, nI_add]⟩, ?_⟩
        exact c80 _ (by' a i ha g0 (by omega))
      · have g0 : a = 0 := (nI_eq (b := 0) (by omega) (by omega)).mp g3
        have e0 : kOf key recs a = key := by unfold kOf; rw [if_pos g0]
        refine ⟨i, ⟨by omega, by omega, rfl⟩, ?_⟩
        refine c80 _ ?_
        rw [e0] at hi ⊢
        exact hdk.2 i (by omega)
  have c35 : ∀ y : Int32, y = nI (kOf key recs b).length → AT 35 0 0 σ z [(0, .ref 15), (1, .int (nI a)), (2, .int (nI b)), (3, .int (nI (kOf key recs a).length))] [.int y] := by
    intro y hy
    subst hy
    refine step [(40, [0, 1, 2, 3, 4, 5])] 5 ?_
    exact loop _ 0 _ rfl (Nat.zero_add _) rfl
  have c17 : ∀ y : Int32, y = nI (kOf key recs a).length → AT 17 0 0 σ z [(0, .ref 15), (1, .int (nI a)), (2, .int (nI b))] [.int y] := by
    intro y hy
    subst hy
    refine step [(35, [0, 1, 2, 3])] 5 ?_
    refine ⟨fun g => ?_, fun g => ?_⟩
    · have g0 : ¬ b = 0 := fun e => g (by rw [e]; rfl)
      refine ⟨b, ⟨by omega, by omega, rfl⟩, ?_⟩
      exact c35 _ (sz b hb g0)
    · have g0 : b = 0 := (nI_eq (b := 0) (by omega) (by omega)).mp g
      exact c35 _ (by unfold kOf; rw [if_pos g0]; exact hdk.1)
  refine step [(17, [0, 1, 2])] 5 ?_
  refine ⟨fun g => ?_, fun g => ?_⟩
  · have g0 : ¬ a = 0 := fun e => g (by rw [e]; rfl)
    refine ⟨a, ⟨by omega, by omega, rfl⟩, ?_⟩
    exact c17 _ (sz a ha g0)
  · have g0 : a = 0 := (nI_eq (b := 0) (by omega) (by omega)).mp g
    exact c17 _ (by unfold kOf; rw [if_pos g0]; exact hdk.1)
theorem t_isBehind (hX : a_okX X) (hr : rOK recs) (hk : kb key) (hd : dR σ recs) (hdk : dK σ key) {a b : Nat} (ha : a < recs.length) (hb : b < recs.length) (hK : K σ z (some (.int (b2i (bef recs b a))))) : a_Meets X ad (a_LL ns) mX8_isBehind σ z [.ref 15, .int (nI (a + 1)), .int (nI (b + 1))] K := by
  have hl := hr.1
  have ra := hr.2 a ha
  have rb := hr.2 b hb
  have da := (hd.2 a ha).2.1
  have db := (hd.2 b hb).2.1
  refine a_Meets.of hX oX8_isBehind (al0 := [(0, .ref 15), (1, .int (nI (a + 1))), (2, .int (nI (b + 1)))]) rfl rfl (fun AT step => ?_)
  refine step [(50, []), (54, [])] 5 ?_
  refine t_morder hX hr hk hd hdk (a := a + 1) (b := b + 1) (by omega) (by omega) (fun r h1 h2 => ?_)
  have ea : kOf key recs (a + 1) = kyO recs a := by unfold kOf; rw [if_neg (by omega)]; rfl
  have eb : kOf key recs (b + 1) = kyO recs b := by unfold kOf; rw [if_neg (by omega)]; rfl
  rw [ea, eb] at h1 h2
  have en := lx_neg (kyO recs a) (kyO recs b)
  unfold bef at hK
  have c50 : (if lx (kyO recs b) (kyO recs a) = 0 then (if rkO recs b = rkO recs a then decide (b < a) else decide (rkO recs b < rkO recs a)) else decide (lx (kyO recs b) (kyO recs a) < 0)) = true → AT 50 0 0 σ z [] [] := by
    intro q
    refine step [] 5 ?_
    exact k_b1 hK q
  have c54 : (if lx (kyO recs b) (kyO recs a) = 0 then (if rkO recs b = rkO recs a then decide (b < a) else decide (rkO recs b < rkO recs a)) else decide (lx (kyO recs b) (kyO recs a) < 0)) = false → AT 54 0 0 σ z [] [] := by
    intro q
    refine step [] 5 ?_
    exact k_b0 hK q
  have hgt : 0 < r ↔ 0 < lx (kyO recs a) (kyO recs b) := by
    rw [Int32.lt_iff_toInt_lt] at h1 ⊢
    rw [← Int32.toInt_inj] at h2
    simp at h1 h2 ⊢
    omega
  refine ⟨fun g => ?_, fun g => ⟨fun g2 => ?_, fun g2 => ?_⟩⟩
  · rw [hgt] at g
    exact c50 (by rw [if_neg (by omega)]; simp; omega)
  · rw [hgt] at g
    rw [h2] at g2
    exact c54 (by rw [if_neg (by omega)]; simp; omega)
  · rw [h2] at g2
    refine ⟨a + 1, ⟨by omega, by omega, rfl⟩, b + 1, ⟨by omega, by omega, rfl⟩, ?_⟩
    refine ⟨fun g3 => ?_, fun g3 => ?_⟩
    · rw [da, db, nI_ltI (by omega) (by omega)] at g3
      exact c50 (by rw [if_pos (by omega), if_neg (by omega)]; simp; omega)
    · rw [da, db, nI_ltI (by omega) (by omega)] at g3
      refine ⟨a + 1, ⟨by omega, by omega, rfl⟩, b + 1, ⟨by omega, by omega, rfl⟩, ?_⟩
      refine ⟨fun g4 => ?_, fun g4 => ⟨fun g5 => ?_, fun g5 => ?_⟩⟩
      · rw [da, db] at g4
        have g4 : ¬ rkO recs a = rkO recs b := fun e => g4 (by rw [e])
        exact c54 (by rw [if_pos (by omega), if_neg (Ne.symm g4)]; simp; omega)
      · rw [da, db] at g4
        have g4 := (nI_eq (by omega) (by omega)).mp g4
        rw [nI_leI (by omega) (by omega)] at g5
        exact c54 (by rw [if_pos (by omega), if_pos g4.symm]; simp; omega)
      · rw [da, db] at g4
        have g4 := (nI_eq (by omega) (by omega)).mp g4
        rw [nI_leI (by omega) (by omega)] at g5
        exact c50 (by rw [if_pos (by omega), if_pos g4.symm]; simp; omega)
theorem dR_27 {σ1 : aS} (h : ∀ q, q ≠ 15 → q ≠ 27 → σ1 q = σ q) (h2 : σ1 15 16 = σ 15 16) (hd : dR σ recs) : dR σ1 recs := by
  unfold dR
  rw [h 24 (by decide) (by decide), h 25 (by decide) (by decide), h 26 (by decide) (by decide), h2]
  exact hd
theorem dK_27 {σ1 : aS} (h : ∀ q, q ≠ 15 → q ≠ 27 → σ1 q = σ q) (h2 : σ1 15 11 = σ 15 11) (hd : dK σ key) : dK σ1 key := by
  unfold dK
  rw [h 20 (by decide) (by decide), h2]
  exact hd
theorem perm_lt {fl : List Nat} {n : Nat} (h : fl.Perm (List.range n)) : ∀ r ∈ fl, r < n := fun r hr => List.mem_range.mp (h.subset hr)
theorem perm_inj {fl : List Nat} {n : Nat} (h : fl.Perm (List.range n)) : ∀ a b : Nat, a < fl.length → b < fl.length → fl.getD a 0 = fl.getD b 0 → a = b := by
  have hn : fl.Nodup := h.nodup_iff.mpr List.nodup_range
  intro a b ha hb e
  rw [List.getD_eq_getElem?_getD, List.getD_eq_getElem?_getD, List.getElem?_eq_getElem ha, List.getElem?_eq_getElem hb] at e
  have hpw := List.pairwise_iff_getElem.mp hn
  rcases Nat.lt_trichotomy a b with h1 | h1 | h1
  · exact absurd e (hpw a b ha hb h1)
  · exact h1
  · exact absurd e.symm (hpw b a hb ha h1)
theorem t_mfile (hX : a_okX X) (hr : rOK recs) (hk : kb key) (hd : dR σ recs) (hdk : dK σ key) (hK : ∀ σ', dF σ' (srt recs recs.length) → σ' 15 0 = nI 0 → (∀ q, q ≠ 15 → q ≠ 27 → σ' q = σ q) → (∀ i, i ≠ 0 → i ≠ 21 → σ' 15 i = σ 15 i) → K σ' z (some (.int (nI recs.length)))) : a_Meets X ad (a_LL ns) mX8_file σ z [.ref 15] K := by
  have hl := hr.1
  refine a_Meets.of hX oX8_file (al0 := [(0, .ref 15)]) rfl rfl (fun AT step => ?_)
  -- what stays
  have fr : ∀ σ1 : aS, Prop := fun σ1 => σ1 15 0 = nI 0 ∧ σ1 15 21 = nI recs.length ∧ (∀ q, q ≠ 15 → q ≠ 27 → σ1 q = σ q) ∧ (∀ i, i ≠ 0 → i ≠ 21 → σ1 15 i = σ 15 i)
  have done : ∀ (σ1 : aS) (fl : List Nat), (σ1 15 0 = nI 0 ∧ σ1 15 21 = nI recs.length ∧ (∀ q, q ≠ 15 → q ≠ 27 → σ1 q = σ q) ∧ (∀ i, i ≠ 0 → i ≠ 21 → σ1 15 i = σ 15 i)) → fl.Perm (List.range recs.length) → (∀ k, k < fl.length → σ1 27 k = nI (fl.getD k 0 + 1)) → (∀ k, k + 1 < fl.length → bef recs (fl.getD (k + 1) 0) (fl.getD k 0) = false) → AT 40 0 0 σ1 z [(0, .ref 15), (1, .int (nI 0))] [] := by
    intro σ1 fl hf hp hfl hso
    have hlen : fl.length = recs.length := by rw [hp.length_eq, List.length_range]
    have hs := srt_ok (recs := recs) recs.length
    have e := inO_uniq fl _ (adj_inO (perm_inj hp) hso) hs.1 (hp.trans hs.2.symm)
    refine step [] 5 ?_
    refine ⟨fun _ => ?_, fun g => absurd rfl g⟩
    show K _ _ (some (.int (σ1 15 21)))
    rw [hf.2.1]
    exact hK σ1 ⟨by rw [← e, hlen]; exact hf.2.1, by rw [← e]; exact hfl⟩ hf.1 hf.2.2.1 hf.2.2.2
  have outer : ∀ (N : Nat) (σ1 : aS) (fl : List Nat), invc recs fl ≤ N → (σ1 15 0 = nI 0 ∧ σ1 15 21 = nI recs.length ∧ (∀ q, q ≠ 15 → q ≠ 27 → σ1 q = σ q) ∧ (∀ i, i ≠ 0 → i ≠ 21 → σ1 15 i = σ 15 i)) → fl.Perm (List.range recs.length) → (∀ k, k < fl.length → σ1 27 k = nI (fl.getD k 0 + 1)) → AT 40 0 0 σ1 z [(0, .ref 15), (1, .int (nI 1))] [] := by
    intro N
    induction N using Nat.strongRecOn with
    | ind N IH =>
      intro σ1 fl0 hN hf0 hp0 hfl0
      have inner : ∀ (n k : Nat) (x y : Int32) (mv : Bool) (σ2 : aS) (fl : List Nat), x = nI k → y = b2i mv → (k + n + 1 = recs.length ∨ (recs.length = 0 ∧ n = 0 ∧ k = 0)) → (σ2 15 0 = nI 0 ∧ σ2 15 21 = nI recs.length ∧ (∀ q, q ≠ 15 → q ≠ 27 → σ2 q = σ q) ∧ (∀ i, i ≠ 0 → i ≠ 21 → σ2 15 i = σ 15 i)) → fl.Perm (List.range recs.length) → (∀ k, k < fl.length → σ2 27 k = nI (fl.getD k 0 + 1)) → (mv = true → invc recs fl < invc recs fl0) → (mv = false → invc recs fl = invc recs fl0 ∧ ∀ j, j < k → bef recs (fl.getD (j + 1) 0) (fl.getD j 0) = false) → AT 48 0 0 σ2 z [(0, .ref 15), (1, .int y), (2, .int x)] [] := by
        intro n
        induction n with
        | zero =>
          intro k x y mv σ2 fl hx hy hkn hf hp hfl hm1 hm2
          subst hx
          subst hy
          have hlen : fl.length = recs.length := by rw [hp.length_eq, List.length_range]
          refine step [(48, [0, 1, 2]), (40, [0, 1]), (111, [0, 1, 2])] 5 ?_
          refine ⟨fun g => ?_, fun g => ?_⟩
          · cases mv with
            | true => exact IH (invc recs fl) (by have := hm1 rfl; omega) σ2 fl (Nat.le_refl _) hf hp hfl
            | false => exact done σ2 fl hf hp hfl (fun j hj => (hm2 rfl).2 j (by omega))
          · rw [hf.2.1, nI_add, nI_leI (by omega) (by omega)] at g
            omega
        | succ n ih =>
          intro k x y mv σ2 fl hx hy hkn hf hp hfl hm1 hm2
          subst hx
          subst hy
          have hlen : fl.length = recs.length := by rw [hp.length_eq, List.length_range]
          have hk1 : k + 1 < fl.length := by omega
          have e1 := hfl k (by omega)
          have e2 := hfl (k + 1) hk1
          have l1 := fl_lt (perm_lt hp) (show k < fl.length by omega)
          have l2 := fl_lt (perm_lt hp) hk1
          refine step [(48, [0, 1, 2]), (40, [0, 1]), (111, [0, 1, 2])] 5 ?_
          refine ⟨fun g => ?_, fun g => ?_⟩
          · rw [hf.2.1, nI_add, nI_leI (by omega) (by omega)] at g
            omega
          · refine ⟨k, ⟨by omega, by omega, rfl⟩, k + 1, ⟨by omega, by omega, nI_add k 1⟩, ?_⟩
            show a_Meets _ _ _ _ _ _ [.ref 15, .int (σ2 27 k), .int (σ2 27 (k + 1))] _
            rw [e1, e2]
            refine t_isBehind hX hr hk (dR_27 hf.2.2.1 (hf.2.2.2 16 (by decide) (by decide)) hd) (dK_27 hf.2.2.1 (hf.2.2.2 11 (by decide) (by decide)) hdk) l1 l2 ?_
            refine ⟨fun g2 => ?_, fun g2 => ?_⟩
            · rw [b2i_0] at g2
              have c111 : AT 111 0 0 σ2 z [(0, .ref 15), (1, .int (b2i mv)), (2, .int (nI k))] [] := by
                refine step [(48, [0, 1, 2])] 5 ?_
                refine ih (k + 1) _ _ mv σ2 fl (nI_add k 1) rfl (by omega) hf hp hfl hm1 (fun q => ⟨(hm2 q).1, fun j hj => ?_⟩)
                rcases Nat.lt_or_ge j k with h | h
                · exact (hm2 q).2 j h
                · have e : j = k := by omega
                  rw [e]; exact g2
              exact c111
            · rw [b2i_0] at g2
              have g2 := (Bool.not_eq_false _).mp g2
              refine ⟨k, ⟨by omega, by omega, rfl⟩, k + 1, ⟨by omega, by omega, nI_add k 1⟩, k, ⟨by omega, by omega, rfl⟩, k + 1, ⟨by omega, by omega, nI_add k 1⟩, ?_⟩
              have hinv := swp_inv k fl hk1 g2
              have c111 : AT 111 0 0 (a_up (a_up σ2 27 k (σ2 27 (k + 1))) 27 (k + 1) (σ2 27 k)) z [(0, .ref 15), (1, .int (b2i true)), (2, .int (nI k))] [] := by
                refine step [(48, [0, 1, 2])] 5 ?_
                refine ih (k + 1) _ _ true _ (swp k fl) (nI_add k 1) rfl (by omega) ?_ ((swp_perm k fl).trans hp) (fun j hj => ?_) (fun _ => ?_) (fun q => by cases q)
                · refine ⟨by simp [a_up, hf.1], by simp [a_up, hf.2.1], fun q q1 q2 => by rw [a_up_ne q2, a_up_ne q2]; exact hf.2.2.1 q q1 q2, fun i q1 q2 => by rw [a_up_ne (by decide), a_up_ne (by decide)]; exact hf.2.2.2 i q1 q2⟩
                · rw [swp_at k fl j hk1]
                  have hj : j < fl.length := by rw [(swp_perm k fl).length_eq] at hj; exact hj
                  simp only [a_up, if_true]
                  by_cases h1 : j = k + 1
                  · rw [if_pos h1, if_neg (by omega), if_pos h1]
                    exact e1
                  · rw [if_neg h1, if_neg h1]
                    by_cases h2 : j = k
                    · rw [if_pos h2, if_pos h2]
                      exact e2
                    · rw [if_neg h2, if_neg h2]
                      exact hfl j hj
                · cases mv with
                  | true => have := hm1 rfl; omega
                  | false => have := (hm2 rfl).1; omega
              exact c111
      refine step [(48, [0, 1, 2])] 5 ?_
      refine ⟨fun g => absurd g (by decide), fun _ => ?_⟩
      exact inner (recs.length - 1) 0 _ _ false σ1 fl0 rfl rfl (by omega) hf0 hp0 hfl0 (fun q => by cases q) (fun _ => ⟨rfl, fun j hj => by omega⟩)
  -- the numbers in their order
  have fill : ∀ (n k : Nat) (x : Int32) (σ1 : aS), x = nI k → k + n = recs.length → (σ1 15 0 = nI 0 ∧ σ1 15 21 = nI recs.length ∧ (∀ q, q ≠ 15 → q ≠ 27 → σ1 q = σ q) ∧ (∀ i, i ≠ 0 → i ≠ 21 → σ1 15 i = σ 15 i)) → (∀ j, j < k → σ1 27 j = nI (j + 1)) → AT 15 0 0 σ1 z [(0, .ref 15), (1, .int x)] [] := by
    intro n
    induction n with
    | zero =>
      intro k x σ1 hx hkn hf hfl
      subst hx
      refine step [(15, [0, 1]), (40, [0, 1])] 5 ?_
      refine ⟨fun g => ?_, fun g => ?_⟩
      · refine outer _ σ1 (List.range recs.length) (Nat.le_refl _) hf (List.Perm.refl _) (fun j hj => ?_)
        have hj : j < recs.length := by simpa using hj
        rw [show (List.range recs.length).getD j 0 = j by simp [List.getD, hj]]
        exact hfl j (by omega)
      · rw [hf.2.1, nI_leI (by omega) (by omega)] at g
        omega
    | succ n ih =>
      intro k x σ1 hx hkn hf hfl
      subst hx
      refine step [(15, [0, 1]), (40, [0, 1])] 5 ?_
      refine ⟨fun g => ?_, fun g => ?_⟩
      · rw [hf.2.1, nI_leI (by omega) (by omega)] at g
        omega
      · refine ⟨k, ⟨by omega, by omega, rfl⟩, ?_⟩
        refine ih (k + 1) _ _ (nI_add k 1) (by omega) ⟨by simp [a_up, hf.1], by simp [a_up, hf.2.1], fun q q1 q2 => by rw [a_up_ne q2]; exact hf.2.2.1 q q1 q2, fun i q1 q2 => by rw [a_up_ne (by decide)]; exact hf.2.2.2 i q1 q2⟩ (fun j hj => ?_)
        simp only [a_up, if_true]
        split
        · rename_i e
          rw [e, nI_add]
        · exact hfl j (by omega)
  refine step [(15, [0, 1]), (40, [0, 1])] 5 ?_
  refine fill recs.length 0 _ _ rfl (Nat.zero_add _) ⟨by simp [a_up], ?_, fun q q1 q2 => by rw [a_up_ne q1, a_up_ne q1], fun i q1 q2 => by simp [a_up, q1, q2]⟩ (fun j hj => by omega)
  simp [a_up, hd.1]
end Ma
