/-! The calls, in the law's world -/
def WP (X0 : aX) (e0 oa : Nat) (tk : Nat → Nat) (o om : Nat) (w : Int64) (P : List Nat → aS → aZ → Prop) (ws : va_W) : Prop :=
  ∃ (ad : Nat → Nat) (ns : List Nat) (σ : aS) (z : aZ) (Z : va_W), zo X0 e0 oa tk ns.length w ad z Z ∧ ws.Perm (a_ws ad X0.2.2.1 (a_LL ns) σ ++ Z) ∧ P ns σ z ∧ ad 0 = o ∧ ad 15 = om
section Cl
variable {X0 : aX} {e0 mi oa : Nat} {tk : Nat → Nat} {o om : Nat} {w : Int64} {P P' : List Nat → aS → aZ → Prop} {ws : va_W} {K : va_W → Option Value → Prop}
theorem WP.imp (h : WP X0 e0 oa tk o om w P ws) (hi : ∀ ns σ z, P ns σ z → P' ns σ z) : WP X0 e0 oa tk o om w P' ws := by
  obtain ⟨ad, ns, σ, z, Z, h1, h2, h3, h4⟩ := h
  exact ⟨ad, ns, σ, z, Z, h1, h2, hi _ _ _ h3, h4⟩
theorem pm_at {A B : va_W} {x : Nat × va_E} (h : A.Perm B) (hx : x ∈ B) : ∃ q : Nat, A[q]? = some x := List.getElem?_of_mem (h.mem_iff.mpr hx)
theorem a_ws_mem {ad : Nat → Nat} {cA : Nat → ClassId} {L : List aC} {σ : aS} {i : Nat} {c : aC} (h : L[i]? = some c) : (ad i, a_ce ad cA (σ i) c) ∈ a_ws ad cA L σ := by
  have := a_ws_at (ad := ad) (cA := cA) (σ := σ) (Z := []) h
  rw [List.append_nil] at this
  exact List.mem_of_getElem? this
theorem recvC (h : WP X0 e0 oa tk o om w P ws) : ∃ (q0 : Nat) (fs : List Value), ws[q0]? = some (o, .inr (10, fs)) := by
  obtain ⟨ad, ns, σ, z, Z, h1, h2, h3, rfl, rfl⟩ := h
  have hm : (a_LL ns)[0]? = some (.inl (10, [.ref 1, .ref 3, .ref 5, .ref 8, .ref 9, .ref 11, .ref 2000000, .ref 2000001, .int 0, .int 0])) := rfl
  obtain ⟨q, hq⟩ := pm_at h2 (List.mem_append_left _ (a_ws_mem (ad := ad) (cA := X0.2.2.1) (σ := σ) hm))
  exact ⟨q, _, hq⟩
theorem recvM (h : WP X0 e0 oa tk o om w P ws) : ∃ (q0 : Nat) (fs : List Value), ws[q0]? = some (om, .inr (11, fs)) := by
  obtain ⟨ad, ns, σ, z, Z, h1, h2, h3, rfl, rfl⟩ := h
  have hm : ∃ fs, (a_LL ns)[15]? = some (.inl (11, fs)) := ⟨_, rfl⟩
  obtain ⟨fs, hm⟩ := hm
  obtain ⟨q, hq⟩ := pm_at h2 (List.mem_append_left _ (a_ws_mem (ad := ad) (cA := X0.2.2.1) (σ := σ) hm))
  exact ⟨q, _, hq⟩
theorem callK {k : aM} {as : List Value} {ans : Option Value} (has : ∀ ad : Nat → Nat, as.map (a_cv ad) = as ∧ ans.map (a_cv ad) = ans) (hw : WP X0 e0 oa tk o om w P ws)
    (h : ∀ ad ns σ z, P ns σ z → a_Meets (mkX X0 e0 oa tk ns.length w) ad (a_LL ns) k σ z (.ref 0 :: as) (fun σ' z' r => P' ns σ' z' ∧ r = ans)) (hK : ∀ ws', WP X0 e0 oa tk o om w P' ws' → K ws' ans) : b_Meets X0 k ws (.ref o :: as) K := by
  obtain ⟨ad, ns, σ, z, Z, h1, h2, h3, rfl, rfl⟩ := hw
  have := b_of_a (X := mkX X0 e0 oa tk ns.length w) (K2 := K) h1 h2 (h ad ns σ z h3) (fun σ' z' r' Z' g1 g2 => by
    obtain ⟨g1, rfl⟩ := g1
    rw [(has ad).2]
    exact hK _ ⟨ad, ns, σ', z', Z', g2, List.Perm.refl _, g1, rfl, rfl⟩)
  rw [List.map_cons, (has ad).1] at this
  exact this
theorem callD {k : aM} {as : List Value} {ans : Option Value} (has : ∀ ad : Nat → Nat, as.map (a_cv ad) = as ∧ ans.map (a_cv ad) = ans) (hw : WP X0 e0 oa tk o om w P ws)
    (h : ∀ ad ns σ z, P ns σ z → a_Meets (mkX X0 e0 oa tk ns.length w) ad (a_LL ns) k σ z (.ref 15 :: as) (fun σ' z' r => P' ns σ' z' ∧ r = ans)) (hK : ∀ ws', WP X0 e0 oa tk o om w P' ws' → K ws' ans) : b_Meets X0 k ws (.ref om :: as) K := by
  obtain ⟨ad, ns, σ, z, Z, h1, h2, h3, rfl, rfl⟩ := hw
  have := b_of_a (X := mkX X0 e0 oa tk ns.length w) (K2 := K) h1 h2 (h ad ns σ z h3) (fun σ' z' r' Z' g1 g2 => by
    obtain ⟨g1, rfl⟩ := g1
    rw [(has ad).2]
    exact hK _ ⟨ad, ns, σ', z', Z', g2, List.Perm.refl _, g1, rfl, rfl⟩)
  rw [List.map_cons, (has ad).1] at this
  exact this
/-! a record more in the layout -/
theorem a_Lp_app : ∀ (ns : List Nat) (r x : Nat), a_Lp r (ns ++ [x]) = a_Lp r ns ++ [.inl (3, [.int 0, .int 0, .ref (29 + 3 * (r + ns.length))]), .inl (4, [.ref (30 + 3 * (r + ns.length)), .int 0]), .inr (0, x)] := by
  intro ns
  induction ns with
  | nil => intro r x; rfl
  | cons n ns ih =>
    intro r x
    simp only [List.cons_append, a_Lp, ih, List.length_cons]
    rw [show r + 1 + ns.length = r + (ns.length + 1) by omega]
theorem a_Lp_len : ∀ (ns : List Nat) (r : Nat), (a_Lp r ns).length = 3 * ns.length := by
  intro ns
  induction ns with
  | nil => intro r; rfl
  | cons n ns ih =>
    intro r
    simp only [a_Lp, List.length_cons, ih]
    omega
theorem a_LL_len (ns : List Nat) : (a_LL ns).length = 28 + 3 * ns.length := by
  unfold a_LL
  rw [List.length_append, a_Lp_len]
  rfl
theorem a_LL_app (ns : List Nat) (x : Nat) : a_LL (ns ++ [x]) = a_LL ns ++ [.inl (3, [.int 0, .int 0, .ref (29 + 3 * ns.length)]), .inl (4, [.ref (30 + 3 * ns.length), .int 0]), .inr (0, x)] := by
  unfold a_LL
  rw [a_Lp_app, Nat.zero_add, List.append_assoc]
theorem a_ce_of {ad ad' : Nat → Nat} {cA : Nat → ClassId} {f : Nat → Int32} {ns : List Nat} {i : Nat} {c : aC} (hc : (a_LL ns)[i]? = some c) (h : ∀ j, (j < 28 + 3 * ns.length ∨ 1000000 ≤ j) → ad' j = ad j) : a_ce ad' cA f c = a_ce ad cA f c := by
  by_cases hi : i < 28
  · unfold a_LL at hc
    rw [List.getElem?_append_left (by show i < 28; exact hi)] at hc
    have hm := List.mem_of_getElem? hc
    have hh : ∀ j, j < 28 → ad' j = ad j := fun j hj => h j (by omega)
    have h0 := h 2000000 (by omega)
    have h1 := h 2000001 (by omega)
    clear hc hi
    simp only [a_L0, List.mem_cons, List.not_mem_nil, or_false] at hm
    rcases hm with rfl | rfl | rfl | rfl | rfl | rfl | rfl | rfl | rfl | rfl | rfl | rfl | rfl | rfl | rfl | rfl | rfl | rfl | rfl | rfl | rfl | rfl | rfl | rfl | rfl | rfl | rfl | rfl <;>
      simp [a_ce, a_fv, a_cv, h0, h1, hh]
  · have hl : i < (a_LL ns).length := (List.getElem?_eq_some_iff.mp hc).1
    rw [a_LL_len] at hl
    have hr : (i - 28) / 3 < ns.length := by omega
    obtain ⟨h1, h2, h3⟩ := a_LL_at hr
    rcases (by omega : i = 28 + 3 * ((i - 28) / 3) ∨ i = 29 + 3 * ((i - 28) / 3) ∨ i = 30 + 3 * ((i - 28) / 3)) with e | e | e
    · rw [e, h1] at hc
      cases hc
      simp [a_ce, a_fv, a_cv, h (29 + 3 * ((i - 28) / 3)) (by omega)]
    · rw [e, h2] at hc
      cases hc
      simp [a_ce, a_fv, a_cv, h (30 + 3 * ((i - 28) / 3)) (by omega)]
    · rw [e, h3] at hc
      cases hc
      rfl
theorem a_ws_of {ad ad' : Nat → Nat} {cA : Nat → ClassId} {σ σ' : aS} {ns : List Nat} (h : ∀ j, (j < 28 + 3 * ns.length ∨ 1000000 ≤ j) → ad' j = ad j) (hs : ∀ j, j < 28 + 3 * ns.length → σ' j = σ j) : a_ws ad' cA (a_LL ns) σ' = a_ws ad cA (a_LL ns) σ := by
  apply List.ext_getElem?
  intro i
  simp only [a_ws, List.getElem?_mapIdx]
  cases hc : (a_LL ns)[i]? with
  | none => rfl
  | some c =>
    have hl : i < (a_LL ns).length := (List.getElem?_eq_some_iff.mp hc).1
    rw [a_LL_len] at hl
    simp only [Option.map_some]
    rw [h i (by omega), hs i hl, a_ce_of hc h]
theorem a_ws_app {ad : Nat → Nat} {cA : Nat → ClassId} {σ : aS} {ns : List Nat} {x : Nat} : a_ws ad cA (a_LL (ns ++ [x])) σ = a_ws ad cA (a_LL ns) σ ++ [(ad (28 + 3 * ns.length), .inr (3, [.int (σ (28 + 3 * ns.length) 0), .int (σ (28 + 3 * ns.length) 1), .ref (ad (29 + 3 * ns.length))])), (ad (29 + 3 * ns.length), .inr (4, [.ref (ad (30 + 3 * ns.length)), .int (σ (29 + 3 * ns.length) 1)])), (ad (30 + 3 * ns.length), .inl (cA 0, x, .inl (σ (30 + 3 * ns.length))))] := by
  rw [a_LL_app]
  unfold a_ws
  rw [List.mapIdx_append]
  congr 1
  rw [a_LL_len]
  simp only [List.mapIdx_cons, List.mapIdx_nil, Nat.zero_add, a_ce, a_fv, a_cv]
  rw [show 0 + 1 + (28 + 3 * ns.length) = 29 + 3 * ns.length by omega, show 0 + 1 + 1 + (28 + 3 * ns.length) = 30 + 3 * ns.length by omega]
end Cl
