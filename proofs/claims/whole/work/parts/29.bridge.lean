/-! From one machine to the other; the lists and texts as the first machine wants them -/
theorem a_of_b {X : aX} {ad : Nat → Nat} {L : List aC} {k : aM} {σ : aS} {z : aZ} {av : List Value} {K : aS → aZ → Option Value → Prop}
    (h : ∀ Z, X.2.2.2.2.2 ad z Z → ∃ ws : va_W, ws.Perm (a_ws ad X.2.2.1 L σ ++ Z) ∧ b_Meets X k ws (av.map (a_cv ad)) (fun ws' r => ∃ (σ' : aS) (z' : aZ) (r' : Option Value) (Z' : va_W), r = r'.map (a_cv ad) ∧ K σ' z' r' ∧ X.2.2.2.2.2 ad z' Z' ∧ ws'.Perm (a_ws ad X.2.2.1 L σ' ++ Z'))) : a_Meets X ad L k σ z av K := by
  refine Met.conseq (fun a s hP => ?_)
  obtain ⟨h1, h2, h3, h4, Z, h5, h6, h7⟩ := hP
  obtain ⟨ws, hp, hM⟩ := h Z h7
  refine ⟨_, _, hM, ⟨h1, h2, h3, h4, h5.pm hp.symm, h6.pm hp.symm⟩, fun o t hQ => ?_⟩
  obtain ⟨⟨ws', r, e1, ⟨σ', z', r', Z', e2, e3, e4, e5⟩, g1, g2⟩, g3⟩ := hQ
  exact ⟨⟨σ', z', r', by rw [e1, e2], e3, Z', g1.pm e5, g2.pm e5, e4⟩, g3⟩
theorem b_of_a {X : aX} {ad : Nat → Nat} {L : List aC} {k : aM} {σ : aS} {z : aZ} {av : List Value} {K : aS → aZ → Option Value → Prop} {Z ws : va_W} {K2 : va_W → Option Value → Prop} (hZ : X.2.2.2.2.2 ad z Z) (hp : ws.Perm (a_ws ad X.2.2.1 L σ ++ Z)) (h : a_Meets X ad L k σ z av K)
    (hK : ∀ (σ' : aS) (z' : aZ) (r' : Option Value) (Z' : va_W), K σ' z' r' → X.2.2.2.2.2 ad z' Z' → K2 (a_ws ad X.2.2.1 L σ' ++ Z') (r'.map (a_cv ad))) : b_Meets X k ws (av.map (a_cv ad)) K2 := by
  refine Met.conseq (fun a s hP => ?_)
  obtain ⟨h1, h2, h3, h4, h5, h6⟩ := hP
  refine ⟨_, _, h, ⟨h1, h2, h3, h4, Z, h5.pm hp, h6.pm hp, hZ⟩, fun o t hQ => ?_⟩
  obtain ⟨⟨σ', z', r', e1, e2, Z', g1, g2, g3⟩, g4⟩ := hQ
  exact ⟨⟨_, _, e1, hK σ' z' r' Z' e2 g3, g1, g2⟩, g4⟩
/-- how the lists, the law's own row and the texts lie; n records, the row holds w -/
def zo (X0 : aX) (e0 oa : Nat) (tk : Nat → Nat) (n : Nat) (w : Int64) (ad : Nat → Nat) (z : aZ) (Z : va_W) : Prop :=
  ∃ (l0 l1 : List Nat) (Z0 Z1 : va_W) (g : Nat → Int64), z = [l0, l1] ∧ (∀ v ∈ l0, ∃ r, r < n ∧ v = 28 + 3 * r) ∧ (∀ v ∈ l1, ∃ r, r < n ∧ v = 28 + 3 * r) ∧ lz X0 e0 (ad 2000000) (l0.map ad) Z0 ∧ lz X0 e0 (ad 2000001) (l1.map ad) Z1 ∧ g 0 = w ∧
    Z = Z0 ++ (Z1 ++ [(oa, .inl (X0.2.2.1 5, 1, .inr (.inl g)))]) ∧ ∀ j, j < 10 → ad (1000000 + j) = tk j
def mkX (X0 : aX) (e0 oa : Nat) (tk : Nat → Nat) (n : Nat) (w : Int64) : aX := (X0.1, X0.2.1, X0.2.2.1, X0.2.2.2.1, X0.2.2.2.2.1, zo X0 e0 oa tk n w)
/-- what is known of the surroundings -/
def okE (X0 : aX) (e0 mi : Nat) (tk : Nat → Nat) : Prop := b_okX X0 ∧ b_om X0 mi ∧ b_gs X0 (b_st 1) (.ref e0) ∧ (∃ f, b_ot X0 (.object "java/lang/Object") e0 0 f) ∧ b_gs X0 (b_st 0) (.int 1) ∧ (∃ v, (v = .null ∨ ∃ a, v = .ref a) ∧ b_gs X0 (b_st 2) v) ∧
  (∀ j, j < 9 → b_tx X0 (tk j) (a_tx j).length (fun i => nI ((a_tx j).getD i 0))) ∧ (∀ j, j < 10 → b_os X0 (tk j)) ∧ (∀ j, j < 10 → ∃ tx : String, ∀ s : State, X0.2.2.2.2.1 s s.heap → vk_R "FilingOrder" (a_sx j) tx (tk j) s)
theorem lz_recv {X0 : aX} {e0 o : Nat} {as : List Nat} {Z : va_W} (h : lz X0 e0 o as Z) : ∃ fs, Z[0]? = some (o, .inr (2, fs)) := by
  obtain ⟨mo, e, Z1, h1, rfl⟩ := h
  exact ⟨_, rfl⟩
theorem lz_pos {X0 : aX} {e0 o : Nat} {as : List Nat} {Z : va_W} (h : lz X0 e0 o as Z) : 0 < Z.length := by
  obtain ⟨mo, e, Z1, h1, rfl⟩ := h
  simp
theorem mk_okX {X0 : aX} {e0 mi oa : Nat} {tk : Nat → Nat} {n : Nat} {w : Int64} (hE : okE X0 e0 mi tk) : a_okX (mkX X0 e0 oa tk n w) := by
  obtain ⟨hX, h1, h2, h3, h4, h5, h6, h7, h8⟩ := hE
  refine ⟨hX.1, hX.2.1, ?_, ?_, ?_⟩
  · rintro ad z Z j hj ⟨l0, l1, Z0, Z1, g, rfl, -, -, g1, g2, -, rfl, -⟩
    obtain ⟨f0, k0⟩ := lz_recv g1
    obtain ⟨f1, k1⟩ := lz_recv g2
    have p0 := lz_pos g1
    have p1 := lz_pos g2
    match j, hj with
    | 0, _ => exact ⟨0, f0, by rw [List.getElem?_append_left p0]; exact k0⟩
    | 1, _ => exact ⟨Z0.length, f1, by rw [List.getElem?_append_right (Nat.le_refl _), Nat.sub_self, List.getElem?_append_left p1]; exact k1⟩
  · rintro ad z Z s j ⟨l0, l1, Z0, Z1, g, -, -, -, -, -, -, -, ht⟩ hs hj
    rw [ht j hj]
    obtain ⟨cell, a1, a2, a3, a4⟩ := h7 j hj s hs
    exact ⟨cell, a1, a2, a3, a4⟩
  · rintro ad z Z s j ⟨l0, l1, Z0, Z1, g, -, -, -, -, -, -, -, ht⟩ hs hj
    rw [ht j hj]
    obtain ⟨tx, htx⟩ := h8 j hj
    exact ⟨tx, htx s hs⟩
theorem mk_okT {X0 : aX} {e0 mi oa : Nat} {tk : Nat → Nat} {n : Nat} {w : Int64} (hE : okE X0 e0 mi tk) (ad : Nat → Nat) (L : List aC) : a_okT (mkX X0 e0 oa tk n w) ad L := by
  obtain ⟨hX, h1, h2, h3, h4, h5, h6, h7, h8⟩ := hE
  refine ⟨fun σ z K j hj hK => ?_, fun σ z K j i hj hi hK => ?_⟩
  · refine a_of_b (fun Z hZ => ⟨_, List.Perm.refl _, ?_⟩)
    have hz := hZ
    obtain ⟨l0, l1, Z0, Z1, g, -, -, -, -, -, -, -, ht⟩ := hZ
    have e : a_cv ad (.ref (1000000 + j)) = .ref (tk j) := by show Value.ref (ad (1000000 + j)) = _; rw [ht j (by omega)]
    show b_Meets X0 _ _ [a_cv ad (.ref (1000000 + j))] _
    rw [e]
    exact s_length hX h4 (h6 j hj) ⟨σ, z, some (.int (nI (a_tx j).length)), Z, rfl, hK, hz, List.Perm.refl _⟩
  · refine a_of_b (fun Z hZ => ⟨_, List.Perm.refl _, ?_⟩)
    have hz := hZ
    obtain ⟨l0, l1, Z0, Z1, g, -, -, -, -, -, -, -, ht⟩ := hZ
    have e : a_cv ad (.ref (1000000 + j)) = .ref (tk j) := by show Value.ref (ad (1000000 + j)) = _; rw [ht j (by omega)]
    show b_Meets X0 _ _ [a_cv ad (.ref (1000000 + j)), .int (nI i)] _
    rw [e]
    have hk := a_tx_ok j hj
    have hb : (a_tx j).getD i 0 < 128 := by
      rw [List.getD_eq_getElem?_getD, List.getElem?_eq_getElem hi]
      exact hk.2 _ (List.getElem_mem hi)
    exact s_charAt hX h4 h5 (h6 j hj) hi (by omega) rfl hb ⟨σ, z, some (.int (nI ((a_tx j).getD i 0))), Z, rfl, hK, hz, List.Perm.refl _⟩
theorem a_Lp_e : ∀ (ns : List Nat) (r k : Nat) (fs : List Value), (a_Lp r ns)[k]? = some (.inl (3, fs)) → ∃ q, q < ns.length ∧ k = 3 * q := by
  intro ns
  induction ns with
  | nil => intro r k fs h; simp [a_Lp] at h
  | cons n ns ih =>
    intro r k fs h
    match k, h with
    | 0, _ => exact ⟨0, by simp, rfl⟩
    | 1, h => simp [a_Lp] at h
    | 2, h => simp [a_Lp] at h
    | k + 3, h =>
      obtain ⟨q, h1, h2⟩ := ih (r + 1) k fs h
      exact ⟨q + 1, by simp; omega, by omega⟩
def cl3 (c : Option aC) : Bool := match c with
  | some (.inl (3, _)) => true
  | _ => false
theorem a_LL_e {ns : List Nat} {v : Nat} {fs : List Value} (h : (a_LL ns)[v]? = some (.inl (3, fs))) : ∃ r, r < ns.length ∧ v = 28 + 3 * r := by
  unfold a_LL at h
  by_cases hv : v < 28
  · rw [List.getElem?_append_left (by show v < 28; exact hv)] at h
    have key : ∀ v, v < 28 → cl3 a_L0[v]? = false := by decide
    have := key v hv
    rw [h] at this
    cases this
  · rw [List.getElem?_append_right (by show 28 ≤ v; omega)] at h
    obtain ⟨q, h1, h2⟩ := a_Lp_e ns 0 (v - 28) fs h
    exact ⟨q, h1, by omega⟩
theorem a_Lp_at : ∀ (ns : List Nat) (r q : Nat), q < ns.length → (a_Lp r ns)[3 * q]? = some (.inl (3, [.int 0, .int 0, .ref (29 + 3 * (r + q))])) ∧ (a_Lp r ns)[3 * q + 1]? = some (.inl (4, [.ref (30 + 3 * (r + q)), .int 0])) ∧ (a_Lp r ns)[3 * q + 2]? = some (.inr (0, ns.getD q 0)) := by
  intro ns
  induction ns with
  | nil => intro r q h; simp at h
  | cons n ns ih =>
    intro r q h
    match q, h with
    | 0, _ => exact ⟨rfl, rfl, rfl⟩
    | q + 1, h =>
      obtain ⟨h1, h2, h3⟩ := ih (r + 1) q (by simpa using h)
      rw [show r + 1 + q = r + (q + 1) by omega] at h1 h2
      exact ⟨h1, h2, h3⟩
theorem a_LL_at {ns : List Nat} {r : Nat} (h : r < ns.length) : (a_LL ns)[28 + 3 * r]? = some (.inl (3, [.int 0, .int 0, .ref (29 + 3 * r)])) ∧ (a_LL ns)[29 + 3 * r]? = some (.inl (4, [.ref (30 + 3 * r), .int 0])) ∧ (a_LL ns)[30 + 3 * r]? = some (.inr (0, ns.getD r 0)) := by
  obtain ⟨h1, h2, h3⟩ := a_Lp_at ns 0 r h
  rw [Nat.zero_add] at h1 h2
  unfold a_LL
  refine ⟨?_, ?_, ?_⟩
  · rw [List.getElem?_append_right (by show 28 ≤ _; omega)]
    show (a_Lp 0 ns)[28 + 3 * r - 28]? = _
    rw [show 28 + 3 * r - 28 = 3 * r by omega]
    exact h1
  · rw [List.getElem?_append_right (by show 28 ≤ _; omega)]
    show (a_Lp 0 ns)[29 + 3 * r - 28]? = _
    rw [show 29 + 3 * r - 28 = 3 * r + 1 by omega]
    exact h2
  · rw [List.getElem?_append_right (by show 28 ≤ _; omega)]
    show (a_Lp 0 ns)[30 + 3 * r - 28]? = _
    rw [show 30 + 3 * r - 28 = 3 * r + 2 by omega]
    exact h3
theorem a_ws_ent {ad : Nat → Nat} {cA : Nat → ClassId} {ns : List Nat} {σ : aS} {r : Nat} (h : r < ns.length) : ∃ (q : Nat) (vs : List Value), (a_ws ad cA (a_LL ns) σ)[q]? = some (ad (28 + 3 * r), .inr (3, vs)) := by
  refine ⟨28 + 3 * r, [.int (σ (28 + 3 * r) 0), .int (σ (28 + 3 * r) 1), .ref (ad (29 + 3 * r))], ?_⟩
  rw [a_ws, List.getElem?_mapIdx, (a_LL_at h).1]
  rfl
theorem ent_left {A B : va_W} {a : Nat} (h : b_ent A a) : b_ent (A ++ B) a := by
  obtain ⟨q, vs, h⟩ := h
  exact ⟨q, vs, by rw [List.getElem?_append_left (List.getElem?_eq_some_iff.mp h).1]; exact h⟩
theorem ent_right {A B : va_W} {a : Nat} (h : b_ent B a) : b_ent (A ++ B) a := by
  obtain ⟨q, vs, h⟩ := h
  exact ⟨A.length + q, vs, by rw [List.getElem?_append_right (by omega), Nat.add_sub_cancel_left]; exact h⟩
theorem pm0 {W A B C : va_W} : (A ++ (B ++ C ++ W)).Perm (W ++ (A ++ (B ++ C))) := by
  rw [← List.append_assoc A]
  exact List.perm_append_comm
theorem pm1 {W A B C : va_W} : (B ++ (A ++ C ++ W)).Perm (W ++ (A ++ (B ++ C))) := by
  have h1 : (B ++ (A ++ C)).Perm (A ++ (B ++ C)) := by
    rw [← List.append_assoc, ← List.append_assoc]
    exact (List.perm_append_comm).append_right _
  rw [← List.append_assoc B]
  exact List.perm_append_comm.trans (h1.append_left _)
theorem mk_okZ {X0 : aX} {e0 mi oa : Nat} {tk : Nat → Nat} {w : Int64} (hE : okE X0 e0 mi tk) (ad : Nat → Nat) (ns : List Nat) : a_okZ (mkX X0 e0 oa tk ns.length w) ad (a_LL ns) := by
  obtain ⟨hX, h1, h2, h3, h4, h5, h6, h7, h8⟩ := hE
  refine ⟨fun σ z K j l hj hK => ?_, fun σ z K j i l hj hi hl hK => ?_, fun σ z K j i v l hj hi hl hv hK => ?_⟩
  · refine a_of_b (fun Z hZ => ?_)
    have hz := hZ
    obtain ⟨l0, l1, Z0, Z1, g, rfl, gv0, gv1, g1, g2, gw, rfl, ht⟩ := hZ
    match j, hj with
    | 0, hj =>
      have hj := Option.some.inj hj
      subst hj
      refine ⟨Z0 ++ (Z1 ++ [(oa, .inl (X0.2.2.1 5, 1, .inr (.inl g)))] ++ a_ws ad X0.2.2.1 (a_LL ns) σ), pm0, ?_⟩
      have hq : ∀ K' : va_W → Option Value → Prop, K' (Z0 ++ (Z1 ++ [(oa, .inl (X0.2.2.1 5, 1, .inr (.inl g)))] ++ a_ws ad X0.2.2.1 (a_LL ns) σ)) (some (.int (nI (l0.map ad).length))) → b_Meets X0 mJx4a65c_size_8abf5 (Z0 ++ (Z1 ++ [(oa, .inl (X0.2.2.1 5, 1, .inr (.inl g)))] ++ a_ws ad X0.2.2.1 (a_LL ns) σ)) [.ref (ad 2000000)] K' := by
        intro K' hK'
        obtain ⟨mo, e, Z9, q1, rfl⟩ := g1
        exact j_size hX hK'
      refine hq _ ⟨σ, _, some (.int (nI l0.length)), _, by rw [List.length_map]; rfl, hK, hz, pm0⟩
    | 1, hj =>
      have hj := Option.some.inj hj
      subst hj
      refine ⟨Z1 ++ (Z0 ++ [(oa, .inl (X0.2.2.1 5, 1, .inr (.inl g)))] ++ a_ws ad X0.2.2.1 (a_LL ns) σ), pm1, ?_⟩
      have hq : ∀ K' : va_W → Option Value → Prop, K' (Z1 ++ (Z0 ++ [(oa, .inl (X0.2.2.1 5, 1, .inr (.inl g)))] ++ a_ws ad X0.2.2.1 (a_LL ns) σ)) (some (.int (nI (l1.map ad).length))) → b_Meets X0 mJx4a65c_size_8abf5 (Z1 ++ (Z0 ++ [(oa, .inl (X0.2.2.1 5, 1, .inr (.inl g)))] ++ a_ws ad X0.2.2.1 (a_LL ns) σ)) [.ref (ad 2000001)] K' := by
        intro K' hK'
        obtain ⟨mo, e, Z9, q1, rfl⟩ := g2
        exact j_size hX hK'
      refine hq _ ⟨σ, _, some (.int (nI l1.length)), _, by rw [List.length_map]; rfl, hK, hz, pm1⟩
  · refine a_of_b (fun Z hZ => ?_)
    have hz := hZ
    obtain ⟨l0, l1, Z0, Z1, g, rfl, gv0, gv1, g1, g2, gw, rfl, ht⟩ := hZ
    have hget : ∀ (o : Nat) (l : List Nat) (Y W : va_W) (K' : va_W → Option Value → Prop), i < l.length → lz X0 e0 o (l.map ad) Y → K' (Y ++ W) (some (.ref (ad (l.getD i 0)))) → b_Meets X0 mJx4a65c_get_915e3 (Y ++ W) [.ref o, .int (nI i)] K' := by
      intro o l Y W K' hi hY hK'
      obtain ⟨mo, e, Z9, q1, rfl⟩ := hY
      rcases q1 with ⟨q1, -, -⟩ | ⟨cap, f, c1, c2, c3, c4, rfl⟩
      · rw [List.map_eq_nil_iff] at q1
        rw [q1] at hi
        simp at hi
      · rw [List.length_map] at c1 c4
        refine j_get hX (a := ad (l.getD i 0)) (by rw [List.length_map]; exact hi) (by rw [List.length_map]; exact c1) (by omega) ?_ hK'
        rw [c4 i hi]
        congr 1
        rw [List.getD_eq_getElem?_getD, List.getElem?_map, List.getD_eq_getElem?_getD, List.getElem?_eq_getElem hi]
        rfl
    match j, hj with
    | 0, hj =>
      have hj := Option.some.inj hj
      subst hj
      exact ⟨Z0 ++ (Z1 ++ [(oa, .inl (X0.2.2.1 5, 1, .inr (.inl g)))] ++ a_ws ad X0.2.2.1 (a_LL ns) σ), pm0, hget _ l0 _ _ _ hi g1 ⟨σ, _, some (.ref (l0.getD i 0)), _, rfl, hK, hz, pm0⟩⟩
    | 1, hj =>
      have hj := Option.some.inj hj
      subst hj
      exact ⟨Z1 ++ (Z0 ++ [(oa, .inl (X0.2.2.1 5, 1, .inr (.inl g)))] ++ a_ws ad X0.2.2.1 (a_LL ns) σ), pm1, hget _ l1 _ _ _ hi g2 ⟨σ, _, some (.ref (l1.getD i 0)), _, rfl, hK, hz, pm1⟩⟩
  · obtain ⟨fs, hv⟩ := hv
    obtain ⟨rv, hrv, rfl⟩ := a_LL_e hv
    refine a_of_b (fun Z hZ => ?_)
    have hz := hZ
    obtain ⟨l0, l1, Z0, Z1, g, rfl, gv0, gv1, g1, g2, gw, rfl, ht⟩ := hZ
    have hins : ∀ (o : Nat) (l : List Nat) (Y W : va_W) (K' : va_W → Option Value → Prop), l.length < 60 → i ≤ l.length → (∀ v ∈ l, ∃ r, r < ns.length ∧ v = 28 + 3 * r) → lz X0 e0 o (l.map ad) Y → (∀ Y', lz X0 e0 o ((l.insertIdx i (28 + 3 * rv)).map ad) Y' → K' (Y' ++ (W ++ a_ws ad X0.2.2.1 (a_LL ns) σ)) none) → b_Meets X0 mJx4a65c_add_7a177 (Y ++ (W ++ a_ws ad X0.2.2.1 (a_LL ns) σ)) [.ref o, .int (nI i), .ref (ad (28 + 3 * rv))] K' := by
      intro o l Y W K' hl hi hv hY hK'
      refine j_ins hX h1 h2 h3 (by rw [List.length_map]; exact hl) (by rw [List.length_map]; exact hi) hY (fun a ha => ?_) (ent_right (a_ws_ent hrv)) (fun Y' hY' => hK' Y' ?_)
      · obtain ⟨v, hvm, rfl⟩ := List.mem_map.mp ha
        obtain ⟨r, hr, rfl⟩ := hv v hvm
        exact ent_right (a_ws_ent hr)
      · have e : (l.insertIdx i (28 + 3 * rv)).map ad = (l.map ad).insertIdx i (ad (28 + 3 * rv)) := by
          apply List.ext_getElem?
          intro q
          rw [List.getElem?_map, List.getElem?_insertIdx, List.getElem?_insertIdx]
          by_cases c1 : q < i
          · rw [if_pos c1, if_pos c1, List.getElem?_map]
          · rw [if_neg c1, if_neg c1]
            by_cases c2 : q = i
            · rw [if_pos c2, if_pos c2, List.length_map]
              split <;> rfl
            · rw [if_neg c2, if_neg c2, List.getElem?_map]
        rw [e]
        exact hY'
    have hmem : ∀ l : List Nat, i ≤ l.length → (∀ v ∈ l, ∃ r, r < ns.length ∧ v = 28 + 3 * r) → ∀ v ∈ l.insertIdx i (28 + 3 * rv), ∃ r, r < ns.length ∧ v = 28 + 3 * r := by
      intro l hi hl v hv
      rcases (List.mem_insertIdx hi).mp hv with rfl | h
      · exact ⟨rv, hrv, rfl⟩
      · exact hl v h
    match j, hj with
    | 0, hj =>
      have hj := Option.some.inj hj
      subst hj
      refine ⟨Z0 ++ (Z1 ++ [(oa, .inl (X0.2.2.1 5, 1, .inr (.inl g)))] ++ a_ws ad X0.2.2.1 (a_LL ns) σ), pm0, hins _ l0 _ _ _ hl hi gv0 g1 (fun Y' hY' => ?_)⟩
      exact ⟨σ, _, none, _, rfl, hK, ⟨l0.insertIdx i (28 + 3 * rv), l1, Y', Z1, g, rfl, hmem l0 hi gv0, gv1, hY', g2, gw, rfl, ht⟩, pm0⟩
    | 1, hj =>
      have hj := Option.some.inj hj
      subst hj
      refine ⟨Z1 ++ (Z0 ++ [(oa, .inl (X0.2.2.1 5, 1, .inr (.inl g)))] ++ a_ws ad X0.2.2.1 (a_LL ns) σ), pm1, hins _ l1 _ _ _ hl hi gv1 g2 (fun Y' hY' => ?_)⟩
      exact ⟨σ, _, none, _, rfl, hK, ⟨l0, l1.insertIdx i (28 + 3 * rv), Z0, Y', g, rfl, gv0, hmem l1 hi gv1, g1, hY', gw, rfl, ht⟩, pm1⟩
