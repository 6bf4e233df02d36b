/-! add, and the law's at, in the law's world -/
section Al
variable {X0 : aX} {e0 mi oa : Nat} {tk : Nat → Nat} {o om : Nat} {w : Int64} {ws : va_W} {K : va_W → Option Value → Prop}
variable {l l2 : List Nat} {left lang left2 lang2 : Nat} {rom rom2 : Bool} {sp sp2 : Nat → Bool} {key key2 : List Nat} {nm nm2 : List (Nat × Bool × Nat)} {recs recs2 : mR} {m m2 : Nat}
theorem fitB : ∀ b, b < 128 → fits .byte (.int (nI b)) = true := by decide +kernel
theorem key_at {key : List Nat} (hk : kb key) {i : Nat} (h : i < key.length) : key.getD i 0 < 128 := by
  rw [List.getD_eq_getElem?_getD, List.getElem?_eq_getElem h]
  exact hk.2 _ (List.getElem_mem h)
/-- class at (…), reference at (…) -/
def cd (l l2 : List Nat) (left left2 lang lang2 : Nat) (rom rom2 : Bool) (sp sp2 : Nat → Bool) (key key2 : List Nat) (nm nm2 : List (Nat × Bool × Nat)) (recs recs2 : mR) (m m2 : Nat) : List Nat → aS → aZ → Prop :=
  fun ns σ z => cI ns σ z l left lang rom sp key nm recs m ∧ dI σ l2 left2 lang2 rom2 sp2 key2 nm2 recs2 m2
theorem zi_mem {fl : List Nat} {n : Nat} (h : ∀ r ∈ fl, r < n) : ∀ v ∈ zi fl, ∃ r, r < n ∧ v = 28 + 3 * r := by
  intro v hv
  obtain ⟨r, hr, rfl⟩ := List.mem_map.mp hv
  exact ⟨r, h r hr, rfl⟩
theorem map_ad {ad ad' : Nat → Nat} {fl : List Nat} (h : ∀ v ∈ fl, ad' v = ad v) : fl.map ad' = fl.map ad := List.map_congr_left h
theorem addK (hE : okE X0 e0 mi tk) (hr : rOK recs) (hk : kb key) (hm : m ≤ recs.length) {c : Int32} (hw : WP X0 e0 oa tk o om w (cd l l2 left left2 lang lang2 rom rom2 sp sp2 key key2 nm nm2 recs recs2 m m2) ws)
    (hT : ∀ j, j < 4 → c = nI j → recs.length < 60 → ∀ ws', WP X0 e0 oa tk o om w (cd l l2 left left2 lang lang2 rom rom2 sp sp2 key key2 nm nm2 (recs ++ [(j, key)]) recs2 m m2) ws' → K ws' (some (.int (nI (recs.length + 1)))))
    (hF : (¬ ((∃ j, j < 4 ∧ c = nI j) ∧ recs.length < 60)) → ∀ ws', WP X0 e0 oa tk o om w (cd l l2 left left2 lang lang2 rom rom2 sp sp2 key key2 nm nm2 recs recs2 m m2) ws' → K ws' (some (.int (nI 0)))) :
    b_Meets X0 mX7_add ws [.ref o, .int c] K := by
  obtain ⟨hX, hmi, h1, h2, -⟩ := hE
  obtain ⟨ad, ns, σ, z, Z, hz, hp, ⟨hc, hd⟩, rfl, rfl⟩ := hw
  have hc0 := hc
  have hz0 := hz
  have hlr := hr.1
  obtain ⟨c1, c2, c3, c4, c5, c6, c7, c8, c9, c10, c11⟩ := hc
  subst c11
  obtain ⟨l0, l1, Z0, Z1, g, e0', v0, v1, q0, q1, gw, rfl, ht⟩ := hz
  injection e0' with e1 e2
  injection e2 with e2 _
  subst e1 e2
  have hln : ((zi (List.range recs.length)).map ad).length = recs.length := by simp [zi]
  -- the world in another order
  let W1 : va_W := Z1 ++ [(oa, .inl (X0.2.2.1 5, 1, .inr (.inl g)))] ++ a_ws ad X0.2.2.1 (a_LL ns) σ
  have hpW : (Z0 ++ W1 ++ []).Perm ws := by
    rw [List.append_nil]
    exact (pm0 (W := a_ws ad X0.2.2.1 (a_LL ns) σ) (A := Z0) (B := Z1) (C := [(oa, .inl (X0.2.2.1 5, 1, .inr (.inl g)))])).trans hp.symm
  have hat : ∀ (i : Nat) (cc : aC), (a_LL ns)[i]? = some cc → W1[(Z1 ++ [(oa, Sum.inl (X0.2.2.1 5, 1, .inr (.inl g)))] : va_W).length + i]? = some (ad i, a_ce ad X0.2.2.1 (σ i) cc) := by
    intro i cc hi
    show (Z1 ++ [(oa, Sum.inl (X0.2.2.1 5, 1, .inr (.inl g)))] ++ a_ws ad X0.2.2.1 (a_LL ns) σ : va_W)[_]? = _
    rw [List.getElem?_append_right (by omega), Nat.add_sub_cancel_left]
    have := a_ws_at (ad := ad) (cA := X0.2.2.1) (σ := σ) (Z := []) hi
    rwa [List.append_nil] at this
  have hent : ∀ r, r < recs.length → b_ent W1 (ad (28 + 3 * r)) := fun r hr => ent_right (a_ws_ent (by omega))
  refine b_Meets.pre (ws' := Z0 ++ W1) (t := []) hpW ?_
  have hk9 := hat 9 _ rfl
  have hk10 := hat 10 _ rfl
  have hk0 := hat 0 _ rfl
  have e9 : a_ce ad X0.2.2.1 (σ 9) (.inl (4, [.ref 10, .int 0])) = .inr (4, [.ref (ad 10), .int (nI key.length)]) := by
    rw [← c7.1]
    rfl
  rw [e9] at hk9
  refine c_add (as := (zi (List.range recs.length)).map ad) (b := ad 10) (n := key.length) (f := σ 10) hX hmi h1 h2 (by rw [hln]; exact hlr) q0 (fun a ha => ?_) hk0 rfl rfl hk9 hk10 hk.1 (fun i hi => by rw [c7.2 i hi]; exact fitB _ (key_at hk hi)) (fun h => ?_) (fun j hj e hlt d k2 en f' Z' hf' hZ' => ?_)
  · obtain ⟨v, hv, rfl⟩ := List.mem_map.mp ha
    obtain ⟨r, hr, rfl⟩ := List.mem_map.mp hv
    exact hent r (List.mem_range.mp hr)
  · rw [hln] at h
    refine hF h _ ⟨ad, ns, σ, _, _, hz0, ?_, ⟨hc0, hd⟩, rfl, rfl⟩
    exact pm0
  · rw [hln] at hlt ⊢
    subst e
    have hn : ns.length = recs.length := c10
    -- the new numbering
    let ad' : Nat → Nat := fun i => if i = 28 + 3 * ns.length then en else if i = 29 + 3 * ns.length then k2 else if i = 30 + 3 * ns.length then d else ad i
    let σ' : aS := fun q i => if q = 28 + 3 * ns.length then (if i = 0 then nI (recs.length + 1) else nI j) else if q = 29 + 3 * ns.length then nI key.length else if q = 30 + 3 * ns.length then f' i else σ q i
    have ha1 : ∀ i, (i < 28 + 3 * ns.length ∨ 1000000 ≤ i) → ad' i = ad i := by
      intro i hi
      show (if i = 28 + 3 * ns.length then en else if i = 29 + 3 * ns.length then k2 else if i = 30 + 3 * ns.length then d else ad i) = ad i
      rw [if_neg (by omega), if_neg (by omega), if_neg (by omega)]
    have hs1 : ∀ q, q < 28 + 3 * ns.length → σ' q = σ q := by
      intro q hq
      funext i
      show (if q = 28 + 3 * ns.length then (if i = 0 then nI (recs.length + 1) else nI j) else if q = 29 + 3 * ns.length then nI key.length else if q = 30 + 3 * ns.length then f' i else σ q i) = σ q i
      rw [if_neg (by omega), if_neg (by omega), if_neg (by omega)]
    have a28 : ad' (28 + 3 * ns.length) = en := if_pos rfl
    have a29 : ad' (29 + 3 * ns.length) = k2 := by
      show (if 29 + 3 * ns.length = 28 + 3 * ns.length then en else if 29 + 3 * ns.length = 29 + 3 * ns.length then k2 else _) = k2
      rw [if_neg (by omega), if_pos rfl]
    have a30 : ad' (30 + 3 * ns.length) = d := by
      show (if 30 + 3 * ns.length = 28 + 3 * ns.length then en else if 30 + 3 * ns.length = 29 + 3 * ns.length then k2 else if 30 + 3 * ns.length = 30 + 3 * ns.length then d else _) = d
      rw [if_neg (by omega), if_neg (by omega), if_pos rfl]
    have s28 : ∀ i, σ' (28 + 3 * ns.length) i = if i = 0 then nI (recs.length + 1) else nI j := fun i => if_pos rfl
    have s29 : ∀ i, σ' (29 + 3 * ns.length) i = nI key.length := by
      intro i
      show (if 29 + 3 * ns.length = 28 + 3 * ns.length then (if i = 0 then nI (recs.length + 1) else nI j) else if 29 + 3 * ns.length = 29 + 3 * ns.length then nI key.length else _) = nI key.length
      rw [if_neg (by omega), if_pos rfl]
    have s30 : σ' (30 + 3 * ns.length) = f' := by
      funext i
      show (if 30 + 3 * ns.length = 28 + 3 * ns.length then (if i = 0 then nI (recs.length + 1) else nI j) else if 30 + 3 * ns.length = 29 + 3 * ns.length then nI key.length else if 30 + 3 * ns.length = 30 + 3 * ns.length then f' i else _) = f' i
      rw [if_neg (by omega), if_neg (by omega), if_pos rfl]
    have hlist : zi (List.range (recs.length + 1)) = zi (List.range recs.length) ++ [28 + 3 * recs.length] := by
      unfold zi
      rw [List.range_succ, List.map_append]
      rfl
    have hm0 : (zi (List.range recs.length)).map ad' = (zi (List.range recs.length)).map ad := map_ad (fun v hv => by
      obtain ⟨r, hr, rfl⟩ := v0 v hv
      exact ha1 _ (by omega))
    have hm1 : (zi (srt recs m)).map ad' = (zi (srt recs m)).map ad := map_ad (fun v hv => by
      obtain ⟨r, hr, rfl⟩ := v1 v hv
      exact ha1 _ (by omega))
    refine hT j hj rfl hlt _ ⟨ad', ns ++ [key.length], σ', [zi (List.range (recs ++ [(j, key)]).length), zi (srt (recs ++ [(j, key)]) m)], Z' ++ (Z1 ++ [(oa, .inl (X0.2.2.1 5, 1, .inr (.inl g)))]), ?_, ?_, ⟨?_, ?_⟩, ?_, ?_⟩
    · refine ⟨zi (List.range (recs.length + 1)), zi (srt recs m), Z', Z1, g, by rw [srt_app m hm]; simp, ?_, ?_, ?_, ?_, gw, rfl, fun q hq => by rw [ha1 _ (by omega)]; exact ht q hq⟩
      · refine zi_mem (fun r hr => ?_)
        rw [List.length_append, List.length_singleton, hn]
        exact List.mem_range.mp hr
      · intro v hv
        obtain ⟨r, hr, e⟩ := v1 v hv
        exact ⟨r, by simp; omega, e⟩
      · rw [hlist, List.map_append, hm0, ha1 2000000 (by omega)]
        have : ([28 + 3 * recs.length].map ad') = [en] := by
          rw [List.map_singleton, ← hn, a28]
        rw [this]
        exact hZ'
      · rw [hm1, ha1 2000001 (by omega)]
        exact q1
    · rw [a_ws_app, a_ws_of ha1 hs1, a28, a29, a30, s28, s28, s29, s30]
      refine List.Perm.trans ?_ (pm0 (W := a_ws ad X0.2.2.1 (a_LL ns) σ ++ [(en, .inr (3, [.int (nI (recs.length + 1)), .int (nI j), .ref k2])), (k2, .inr (4, [.ref d, .int (nI key.length)])), (d, .inl (X0.2.2.1 0, key.length, .inl f'))]) (A := Z') (B := Z1) (C := [(oa, .inl (X0.2.2.1 5, 1, .inr (.inl g)))]))
      refine List.Perm.append_left _ ?_
      have p1 : ∀ (A : va_W) (x y u : Nat × va_E), (x :: y :: u :: A).Perm (A ++ [u, y, x]) := by
        intro A x y u
        have h1 : [x, y, u].Perm [u, y, x] := by
          refine (List.Perm.swap _ _ _).trans ?_
          refine ((List.Perm.swap _ _ _).cons _).trans ?_
          exact List.Perm.swap _ _ _
        exact (List.Perm.append_right A h1).trans List.perm_append_comm
      have p2 := p1 W1 (d, .inl (X0.2.2.1 0, key.length, .inl f')) (k2, .inr (4, [.ref d, .int (nI key.length)])) (en, .inr (3, [.int (nI (recs.length + 1)), .int (nI j), .ref k2]))
      refine p2.trans ?_
      show List.Perm (Z1 ++ [(oa, Sum.inl (X0.2.2.1 5, 1, .inr (.inl g)))] ++ a_ws ad X0.2.2.1 (a_LL ns) σ ++ _) _
      rw [List.append_assoc]
    · refine ⟨by rw [hs1 1 (by omega)]; exact c1, by rw [hs1 1 (by omega)]; exact c2, by rw [hs1 2 (by omega)]; exact c3, by rw [hs1 4 (by omega)]; exact c4, by rw [hs1 0 (by omega)]; exact c5, by rw [hs1 0 (by omega)]; exact c6, ?_, ?_, ?_, by simp [hn], rfl⟩
      · unfold cK
        rw [hs1 9 (by omega), hs1 10 (by omega)]
        exact c7
      · unfold cN
        rw [hs1 11 (by omega), hs1 12 (by omega), hs1 13 (by omega), hs1 14 (by omega)]
        exact c8
      · intro r hr
        rw [List.length_append, List.length_singleton] at hr
        have hnl : r < (ns ++ [key.length]).length := by rw [List.length_append, List.length_singleton, hn]; exact hr
        obtain ⟨n1, n2, n3⟩ := a_LL_at hnl
        rw [rkO_app, kyO_app]
        by_cases e : r = recs.length
        · rw [if_pos e, if_pos e]
          have er : r = ns.length := by omega
          subst er
          refine ⟨n1, by rw [s28]; simp [hn], by rw [s28]; simp, 30 + 3 * ns.length, key.length, n2, by rw [n3]; simp, Nat.le_refl _, hk, s29 1, fun q hq => ?_⟩
          rw [s30, hf' q hq]
          exact c7.2 q hq
        · rw [if_neg e, if_neg e]
          have hr2 : r < recs.length := by omega
          obtain ⟨-, o2, o3, p', n', o4, o5, o6, o7, o8, o9⟩ := c9 r hr2
          obtain ⟨k1, k2', k3⟩ := a_LL_at (ns := ns) (show r < ns.length by omega)
          have ep : 30 + 3 * r = p' := Value.ref.inj (List.cons.inj (Prod.mk.inj (Sum.inl.inj (Option.some.inj (k2'.symm.trans o4)))).2).1
          subst ep
          refine ⟨n1, by rw [hs1 _ (by omega)]; exact o2, by rw [hs1 _ (by omega)]; exact o3, 30 + 3 * r, n', n2, ?_, o6, o7, by rw [hs1 _ (by omega)]; exact o8, by rw [hs1 _ (by omega)]; exact o9⟩
          rw [n3, ← o5, k3]
          congr 3
          rw [List.getD_eq_getElem?_getD, List.getElem?_append_left (by omega), List.getD_eq_getElem?_getD]
    · exact dI_of (fun q q1 q2 => hs1 q (by omega)) hd
    · exact ha1 0 (by omega)
    · exact ha1 15 (by omega)
theorem last_at {A : va_W} {x y : Nat × va_E} : (A ++ [x])[A.length]? = some x ∧ (A ++ [x]).set A.length y = A ++ [y] := by
  constructor
  · simp
  · rw [List.set_append_right _ _ (Nat.le_refl _), Nat.sub_self]
    rfl
theorem latK (hE : okE X0 e0 mi tk) (hV : okV X0) (hk : kb key) {i : Int32} (hw : WP X0 e0 oa tk o om w (cd l l2 left left2 lang lang2 rom rom2 sp sp2 key key2 nm nm2 recs recs2 m m2) ws)
    (hT : ∀ j, j < key.length → i = nI j → ∀ ws', WP X0 e0 oa tk o om (nI (key.getD j 0)).toInt64 (cd l l2 left left2 lang lang2 rom rom2 sp sp2 key key2 nm nm2 recs recs2 m m2) ws' → K ws' (some (.int (nI 0))))
    (hF : (¬ ∃ j, j < key.length ∧ i = nI j) → ∀ ws', WP X0 e0 oa tk o om w (cd l l2 left left2 lang lang2 rom rom2 sp sp2 key key2 nm nm2 recs recs2 m m2) ws' → K ws' (some (.int (nI 1)))) :
    Met X0.1 yL_at wsLat (a_rm mL_at) (va_Pc [.ref o, .int i, .ref oa] (b_Pr X0 ws)) (b_Qc X0 K) 1 6 (a_A X0) := by
  have hX := hE.1
  obtain ⟨ad, ns, σ, z, Z, hz, hp, ⟨hc, hd⟩, rfl, rfl⟩ := hw
  have c7 : cK σ key := hc.2.2.2.2.2.2.1
  have hat : ∀ (j : Nat) (cc : aC), (a_LL ns)[j]? = some cc → (a_ws ad X0.2.2.1 (a_LL ns) σ ++ Z)[j]? = some (ad j, a_ce ad X0.2.2.1 (σ j) cc) := fun j cc hj => a_ws_at hj
  have hk9 := hat 9 _ rfl
  have hk0 := hat 0 _ rfl
  have e9 : a_ce ad X0.2.2.1 (σ 9) (.inl (4, [.ref 10, .int 0])) = .inr (4, [.ref (ad 10), .int (nI key.length)]) := by
    rw [← c7.1]
    rfl
  rw [e9] at hk9
  have hM := x_lat (X := X0) (ws := a_ws ad X0.2.2.1 (a_LL ns) σ ++ Z) (K := K) (G := fun ws' => ∃ Z', zo X0 e0 oa tk ns.length w ad z Z' ∧ ws' = a_ws ad X0.2.2.1 (a_LL ns) σ ++ Z') (oa := oa) (i := i) (v := fun j => nI (key.getD j 0)) hX hV hk0 rfl hk9 hk.1
    (fun j K' hj hK' => by
      have hb := b_of_a (X := mkX X0 e0 oa tk ns.length w) (K2 := K') hz (List.Perm.refl _) (t_X1_byteAt (K := fun σ' z' r => (σ' = σ ∧ z' = z) ∧ r = some (.int (σ 10 j))) (mk_okX hE) hk.1 c7.1 hj ⟨⟨rfl, rfl⟩, rfl⟩) (fun σ' z' r' Z' g1 g2 => by
        obtain ⟨⟨rfl, rfl⟩, rfl⟩ := g1
        have := hK' _ ⟨Z', g2, rfl⟩
        rw [← c7.2 j hj] at this
        exact this)
      exact hb)
    (fun j hj hi ws' hG => by
      obtain ⟨Z', hz', rfl⟩ := hG
      have hz0 := hz'
      obtain ⟨l0, l1, Z0, Z1, g, e0', v0, v1, q0, q1, gw, rfl, ht⟩ := hz'
      have hl := last_at (A := a_ws ad X0.2.2.1 (a_LL ns) σ ++ (Z0 ++ Z1)) (x := (oa, .inl (X0.2.2.1 5, 1, .inr (.inl g)))) (y := (oa, .inl (X0.2.2.1 5, 1, .inr (.inl (vp_updL g 0 (nI (key.getD j 0)).toInt64)))))
      have ea : a_ws ad X0.2.2.1 (a_LL ns) σ ++ (Z0 ++ (Z1 ++ [(oa, Sum.inl (X0.2.2.1 5, 1, .inr (.inl g)))])) = a_ws ad X0.2.2.1 (a_LL ns) σ ++ (Z0 ++ Z1) ++ [(oa, Sum.inl (X0.2.2.1 5, 1, .inr (.inl g)))] := by simp
      refine ⟨(a_ws ad X0.2.2.1 (a_LL ns) σ ++ (Z0 ++ Z1)).length, g, by rw [ea]; exact hl.1, ?_⟩
      rw [ea, hl.2]
      refine hT j hj hi _ ⟨ad, ns, σ, z, Z0 ++ (Z1 ++ [(oa, .inl (X0.2.2.1 5, 1, .inr (.inl (vp_updL g 0 (nI (key.getD j 0)).toInt64))))]), ⟨l0, l1, Z0, Z1, _, e0', v0, v1, q0, q1, pk_uLs, rfl, ht⟩, ?_, ⟨hc, hd⟩, rfl, rfl⟩
      simp)
    (fun h => hF h _ ⟨ad, ns, σ, z, Z, hz, List.Perm.refl _, ⟨hc, hd⟩, rfl, rfl⟩)
  refine Met.conseq (fun a s hP => ⟨_, _, hM, ?_, fun o t hQ => hQ⟩)
  obtain ⟨g1, g2, g3, g4, g5, g6⟩ := hP
  exact ⟨g1, g2, g3, g4, g5.pm hp, g6.pm hp⟩
end Al
