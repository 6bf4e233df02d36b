/-! The second machine is right -/
theorem va_P.pm {D : va_G} {cl : List vw_C} {ws ws' : va_W} {H : Heap} (h : ws.Perm ws') (hP : va_P D cl ws H) : va_P D cl ws' H := by
  intro k q hk
  obtain ⟨i, hi⟩ := List.getElem?_of_mem (h.mem_iff.mpr (List.mem_of_getElem? hk))
  exact hP i q hi
theorem va_D.nd {A : Nat → Prop} {ws : va_W} : va_D A ws ↔ (ws.map (fun q => q.1)).Nodup ∧ ∀ q ∈ ws, A q.1 := by
  constructor
  · rintro ⟨h1, h2⟩
    refine ⟨?_, fun q hq => ?_⟩
    · rw [List.Nodup, List.pairwise_iff_getElem]
      intro i j hi hj hij e
      simp only [List.length_map] at hi hj
      simp only [List.getElem_map] at e
      have := h1 i j ws[i] ws[j] (List.getElem?_eq_getElem hi) (List.getElem?_eq_getElem hj) e
      omega
    · obtain ⟨i, hi⟩ := List.getElem?_of_mem hq
      exact h2 i q hi
  · rintro ⟨h1, h2⟩
    refine ⟨fun i j p q hi hj e => ?_, fun k q hk => h2 q (List.mem_of_getElem? hk)⟩
    rw [List.Nodup, List.pairwise_iff_getElem] at h1
    obtain ⟨li, ei⟩ := List.getElem?_eq_some_iff.mp hi
    obtain ⟨lj, ej⟩ := List.getElem?_eq_some_iff.mp hj
    rcases Nat.lt_trichotomy i j with h | h | h
    · exact absurd (by rw [List.getElem_map, List.getElem_map, ei, ej]; exact e) (h1 i j (by simpa using li) (by simpa using lj) h)
    · exact h
    · exact absurd (by rw [List.getElem_map, List.getElem_map, ei, ej]; exact e.symm) (h1 j i (by simpa using lj) (by simpa using li) h)
theorem va_D.pm {A : Nat → Prop} {ws ws' : va_W} (h : ws.Perm ws') (hD : va_D A ws) : va_D A ws' := by
  rw [va_D.nd] at hD ⊢
  exact ⟨(h.map _).nodup_iff.mp hD.1, fun q hq => hD.2 q (h.mem_iff.mpr hq)⟩
theorem b_front {α : Type} (l : List α) (x : α) : (l ++ [x]).Perm (x :: l) := List.perm_append_comm
theorem a_cv_id (v : Value) : a_cv id v = v := by cases v <;> rfl
theorem a_cl_id (al : aV) : al.map (a_cl id) = al := by
  induction al with
  | nil => rfl
  | cons q r ih => rw [List.map_cons, ih]; obtain ⟨i, v⟩ := q; simp [a_cl, a_cv_id]
theorem b_sto_has {ls : Array Slot} {nL : Nat} {al : aV} {i : Nat} {v : Value} (hf : a_fr al i 1 = true)
    (h : lv_has ls nL ((i, v) :: al.filter (fun q => !(q.1 == i) && !(q.1 + 1 == i && q.2.category == 2)))) : lv_has ls nL (a_sto i v al) := by
  have := a_sto_has (ad := id) (ls := ls) (nL := nL) (v := v) hf (by rw [a_cv_id, a_cl_id]; exact h)
  rwa [a_cl_id] at this
theorem b_keep_has {ls : Array Slot} {nL : Nat} {al : aV} {ks : List Nat} (h : lv_has ls nL al) : lv_has ls nL (a_keep ks al) := by
  have := a_keep_has (ad := id) (ks := ks) (by rw [a_cl_id]; exact h)
  rwa [a_cl_id] at this
theorem b_ld_has {ls : Array Slot} {nL : Nat} {al : aV} {i : Nat} {v : Value} (h : lv_has ls nL al) (hv : a_ld al i = some v) : ls[i]? = some (.val v) := h.2.2 _ (a_ld_mem hv)
theorem b_good_in {q : aM} (h : Cond.code q.1 q.2.1 q.2.2.1 q.2.2.2.1 ∈ lw_g) : GoodIn lw_g (a_wsM q) := by
  intro w hw
  have h1 : w ∈ lw_g := by
    rcases List.mem_cons.mp hw with rfl | h2
    · exact h
    · exact h2
  exact ⟨h1, good_of_word (List.mem_filter.mp h1).2⟩
def b_Cx (X : aX) (k : aM) (R : Room) (p : Program) (s : State) (m : MethodId) (args : Array Value) (meth : Method) (c : Code) : Prop :=
  p.tables.exec = Jvm.exec ∧ c.code = k.2.1 ∧ c.maxLocals = k.2.2.1 ∧ s.vm.findClass k.1.cls = some m.cls ∧ (∀ w ∈ lw_g, w.before args s = true) ∧ X.2.2.2.1 ≤ s.heap.size ∧ va_K X.2.1 vwCl (a_tys X.2.2.1) s ∧ X.2.2.2.2.1 s s.heap ∧ meth.name = k.1.name ∧
    (k.2.2.2.2.1 ≤ R.frames ∧ 60 * k.2.2.2.2.1 ≤ R.locals ∧ k.2.2.2.2.2.1 ≤ R.cells ∧ k.2.2.2.2.2.2 ≤ R.slots)
def b_At (X : aX) (k : aM) (R : Room) (Q : State → Prop) (p : Program) (e : Env) (s : State) (m : MethodId) (args : Array Value) (below : List Frame) (meth : Method) (c : Code) (pc cs ss : Nat) (ws : va_W) (al : aV) (st : List Value) : Prop :=
  cs ≤ k.2.2.2.2.2.1 → ss ≤ k.2.2.2.2.2.2 → ∀ (H : Heap) (locs : List Loc) (ls : Array Slot), va_P X.2.1 vwCl ws H → va_D (a_A X) ws → va_S (a_A X) s.heap H locs → lv_has ls k.2.2.1 al → W p X.1 e R s m args below meth c H locs cs ss Q (F0 m pc ls st)
section Bs
variable {X : aX} {k : aM} {R : Room} {Q : State → Prop} {K : va_W → Option Value → Prop} {p : Program} {e : Env} {s : State} {m : MethodId} {args : Array Value} {below : List Frame} {meth : Method} {c : Code}
theorem b_blind (hX : b_okX X) {av : List Value} {ws : va_W} : FrameBlind (va_Pc av (b_Pr X ws)) := by
  intro a U g mk h
  obtain ⟨h1, h2, h3, h4, h5⟩ := h
  exact ⟨h1, h2, va_K.moved (u := U) (U := U.calling g mk a) (Vm.Alike.refl U.vm) h3, hX.1 U (U.calling g mk a) (State.WarmedH.refl U) (Nat.le_refl _) (fun _ _ _ => rfl) h4, h5⟩
theorem b_pre (hX : b_okX X) (hN : X.2.2.2.1 ≤ s.heap.size) (hK : va_K X.2.1 vwCl (a_tys X.2.2.1) s) (hE : X.2.2.2.2.1 s s.heap) {ws : va_W} {H : Heap} {locs : List Loc} (hP : va_P X.2.1 vwCl ws H) (hD : va_D (a_A X) ws) (hS : va_S (a_A X) s.heap H locs) (U : State) (hU : U.heap = H) (hw : s.WarmedH U.vm) : b_Pr X ws U := by
  refine ⟨by rw [hU]; exact Nat.le_trans hN hS.1, va_K.moved hw.alike hK, hX.1 s U hw (by rw [hU]; exact hS.1) (fun q h1 h2 => by rw [hU]; exact hS.2.1 q h1 h2) hE, by rw [hU]; exact hP, hD⟩
theorem b_go {l : Launch} {H : Heap} {locs : List Loc} {cs ss mc ms pc : Nat} {ls : Array Slot} {st0 rest : List Value} {K' : va_W → Option Value → Prop} {av : Array Value}
    (hr : va_Run p l e R s m args below meth c H locs cs ss mc ms (F0 m pc ls st0) rest (b_Qc X K' av) (a_A X)) (hS : va_S (a_A X) s.heap H locs)
    (kk : ∀ (ws : va_W) (r : Option Value) (H1 : Heap) (locs1 : List Loc), K' ws r → va_P X.2.1 vwCl ws H1 → va_D (a_A X) ws → va_S (a_A X) s.heap H1 locs1 → W p l e R s m args below meth c H1 locs1 (cs + mc) (ss + ms) Q (F0 m (pc + 3) ls (r.toList ++ rest))) :
    W p l e R s m args below meth c H locs cs ss Q (F0 m pc ls st0) := by
  intro T hT XX
  obtain ⟨v, st₀, t, T', Lc, h0, X', hL, e1, e2, ⟨⟨ws', r, hv, hK, hP, hD⟩, hz, hk⟩, st⟩ := hr T hT XX
  cases hv
  rw [h0] at hz hk
  obtain ⟨t2, a1, b1⟩ := kk ws' v T'.heap (locs ++ Lc) hK (by rw [e1]; exact hP) hD
    ⟨Nat.le_trans hS.1 (by rw [e1]; exact hz), fun q h1 h2 => by rw [e1, hk q (Nat.lt_of_lt_of_le h1 hS.1) h2]; exact hS.2.1 q h1 h2, fun q hq => by
      rcases List.mem_append.mp hq with h | h
      · exact hS.2.2 q h
      · exact hL q h⟩ T' rfl X'
  exact ⟨t2, st t2 a1, b1⟩
theorem b_ps (r : Option Value) (st : List Value) : r.toList ++ st = a_ps r st := by cases r <;> rfl
theorem b_dep {q : aM} {n : Nat} (h : a_mok k q n = true) (hR : k.2.2.2.2.1 ≤ R.frames ∧ 60 * k.2.2.2.2.1 ≤ R.locals) : Cond.code q.1 q.2.1 q.2.2.1 q.2.2.2.1 ∈ lw_g ∧ ((a_rm q).frames + 1 ≤ R.frames ∧ 8 + (q.2.2.1 + 11) + (a_rm q).locals ≤ R.locals) ∧
    (q.1.cls ≠ "java/lang/invoke/MethodHandle" ∧ q.1.cls ≠ "java/lang/invoke/VarHandle" ∧ (parseMethodDescriptor q.1.desc).map (fun d => d.parameters.length) = some n) := by
  simp only [a_mok, Bool.and_eq_true, decide_eq_true_eq] at h
  obtain ⟨h1, h2, h3, h4⟩ := h
  have h2 := Nat.le_of_ble_eq_true h2
  have h3 := Nat.le_of_ble_eq_true h3
  exact ⟨a_w_in h1, ⟨by simp only [a_rm]; omega, by simp only [a_rm]; omega⟩, h4⟩
theorem b_call_inv {q : aM} {N : bN} {cs ss : Nat} {ws : va_W} {al : aV} {as rest : List Value} (h : b_call X k q N cs ss ws al as rest) (hcs : cs ≤ k.2.2.2.2.2.1) (hss : ss ≤ k.2.2.2.2.2.2) :
    (rest.map fun v => v.category).sum ≤ 8 ∧ (cs + q.2.2.2.2.2.1 ≤ k.2.2.2.2.2.1 ∧ ss + q.2.2.2.2.2.2 ≤ k.2.2.2.2.2.2) ∧ b_Meets X q ws as (fun ws' r => N (cs + q.2.2.2.2.2.1) (ss + q.2.2.2.2.2.2) ws' al (a_ps r rest)) := by
  obtain ⟨h4, h5⟩ := a_if_inv h
  exact ⟨Nat.le_of_ble_eq_true h4, a_cnt_inv h5 hcs hss⟩
theorem b_goM {H : Heap} {locs : List Loc} {cs ss pc : Nat} {ls : Array Slot} {st0 rest : List Value} {as : Array Value} {q : aM} {N : bN} {al : aV}
    (hS : va_S (a_A X) s.heap H locs) (hlv : lv_has ls k.2.2.1 al)
    (hN : ∀ cs ss ws al st, N cs ss ws al st → b_At X k R Q p e s m args below meth c (pc + 3) cs ss ws al st)
    (hb1 : cs + q.2.2.2.2.2.1 ≤ k.2.2.2.2.2.1) (hb2 : ss + q.2.2.2.2.2.2 ≤ k.2.2.2.2.2.2)
    (hr : va_Run p X.1 e R s m args below meth c H locs cs ss q.2.2.2.2.2.1 q.2.2.2.2.2.2 (F0 m pc ls st0) rest (b_Qc X (fun ws' r => N (cs + q.2.2.2.2.2.1) (ss + q.2.2.2.2.2.2) ws' al (a_ps r rest)) as) (a_A X)) :
    W p X.1 e R s m args below meth c H locs cs ss Q (F0 m pc ls st0) := by
  refine b_go hr hS (fun ws r H1 locs1 h1 h2 h3 h4 => ?_)
  rw [b_ps]
  exact hN _ _ _ _ _ h1 hb1 hb2 H1 locs1 ls h2 h3 h4 hlv
theorem b_newa {H : Heap} {locs : List Loc} {cs ss pc : Nat} {ls : Array Slot} {rest : List Value} {ws : va_W} (hC : b_Cx X k R p s m args meth c) (hP : va_P X.2.1 vwCl ws H) (hD : va_D (a_A X) ws) (hS : va_S (a_A X) s.heap H locs)
    {atype : ArrayType} (harr : Cond.arrayClass (newarray.typeOf atype) ∈ lw_g) {ty : FieldType} (hty : newarray.typeOf atype = ty) {t : Nat} (ht : (a_tys X.2.2.1)[t]? = some (X.2.2.1 t, ty)) (hpr : ∀ c, ty ≠ .object c)
    {n' : Nat} {y : (Nat → Int32) ⊕ (Nat → Int64) ⊕ (Nat → UInt32) ⊕ (Nat → UInt64) ⊕ (Nat → Option Nat)} (ha : ∀ cA : ClassId, vp_cell cA (n', y) = arrV cA n' (fun _ => defaultValue ty)) (hn : n' ≤ 100000) (hcb : componentBytes ty ≤ 8) (h1 : cs + 1 ≤ k.2.2.2.2.2.1) (h2 : ss + n' ≤ k.2.2.2.2.2.2) (hdg : decode k.2.1 pc = .ok (.newarray atype, 2))
    (kk : ∀ (q : Nat) (H1 : Heap), va_P X.2.1 vwCl ((q, .inl (X.2.2.1 t, n', y)) :: ws) H1 → va_D (a_A X) ((q, .inl (X.2.2.1 t, n', y)) :: ws) → va_S (a_A X) s.heap H1 locs → W p X.1 e R s m args below meth c H1 locs (cs + 1) (ss + n') Q (F0 m (pc + 2) ls (.ref q :: rest))) :
    W p X.1 e R s m args below meth c H locs cs ss Q (F0 m pc ls (.int (nI n') :: rest)) := by
  obtain ⟨hx, hb, hml, hown, hts, hN0, hK, hE, hnm, hR1, hR2, hR3, hR4⟩ := hC
  have hc : (nI n').toNatClampNeg = n' := nI_clamp (by omega)
  refine va_newa hx hb (hts _ harr) hty hK hP hD hS (fun q hq => Nat.le_trans hN0 hq) (a0 := (n', y)) ha (nI_pos (by omega)) hc (by
    have := Nat.mul_le_mul hn hcb
    omega) (by omega) (by omega) hdg (fun q cA H1 g1 g2 g3 g4 => ?_)
  have e1 := (g1.2 6 (cA, ty) rfl).2
  have e2 := (hK.2 t _ ht).2
  have e3 : cA = X.2.2.1 t := by
    cases ty with
    | object c => exact absurd rfl (hpr c)
    | _ => exact Option.some.inj (Eq.trans (Eq.symm e1) e2)
  subst e3
  exact kk q H1 (g2.pm (b_front _ _)) (g3.pm (b_front _ _)) g4
/-- a return instruction leads where K says -/
def b_Rt (X : aX) (k : aM) (R : Room) (Q : State → Prop) (K : va_W → Option Value → Prop) (p : Program) (e : Env) (s : State) (m : MethodId) (args : Array Value) (below : List Frame) (meth : Method) (c : Code) : Prop :=
  ∀ (pc cs ss : Nat) (ws : va_W) (ls : Array Slot) (st : List Value) (r : Option Value) (H : Heap) (locs : List Loc) (i : Instr), decode k.2.1 pc = .ok (i, 1) → ((∃ v, i = .ireturn ∧ st = [.int v] ∧ r = some (.int v)) ∨ (∃ v, i = .areturn ∧ st = [.ref v] ∧ r = some (.ref v)) ∨ (i = .return_ ∧ st = [] ∧ r = none)) → K ws r → cs ≤ k.2.2.2.2.2.1 → ss ≤ k.2.2.2.2.2.2 → va_P X.2.1 vwCl ws H → va_D (a_A X) ws → va_S (a_A X) s.heap H locs →
    W p X.1 e R s m args below meth c H locs cs ss Q (F0 m pc ls st)
theorem b_Any (hX : b_okX X) (hE : X.2.2.2.2.1 s s.heap) (hK : va_K X.2.1 vwCl (a_tys X.2.2.1) s) {H : Heap} {ws : va_W} (hP : va_P X.2.1 vwCl ws H) (hc : a_nw (.castable "FilingOrder$Entry" "java/lang/Object") = true) {qk y : Nat} {vs : List Value} (h : ws[qk]? = some (y, .inr (3, vs))) : va_Any "java/lang/Object" s H y := by
  obtain ⟨n1, n2⟩ := a_nw_in hc
  refine va_rAny (r := (RX0, TX0, 3)) hK hP h rfl (fun comp c0 f1 f2 => ?_)
  obtain ⟨c1, t1, g1, g2, g3⟩ := Cond.castable_spec (va_Nw.use (A := #[]) rfl (hX.2.1 s hE _ n1 n2))
  have e1 : c0 = c1 := Option.some.inj (f2.symm.trans g1)
  have e2 : comp = t1 := Option.some.inj (f1.symm.trans g2)
  rw [e1, e2]
  exact g3
theorem b_one_ok (hX : b_okX X) (hC : b_Cx X k R p s m args meth c) (hRt : b_Rt X k R Q K p e s m args below meth c) {J : Nat → bN} {N : bN} {i : Instr} {len a1 a2 a3 : Nat} {cv : Int32} {q : Option aM} {pc : Nat}
    (hJ : ∀ t cs ss ws al st, J t cs ss ws al st → b_At X k R Q p e s m args below meth c t cs ss ws al st)
    (hN : ∀ cs ss ws al st, N cs ss ws al st → b_At X k R Q p e s m args below meth c (pc + len) cs ss ws al st)
    (hok : b_ok k pc (i, len, (a1, a2, a3), cv, q) = true) {cs ss : Nat} {ws : va_W} {al : aV} {st : List Value} (h : b_one X k K J N i a1 a2 a3 cv q pc cs ss ws al st) :
    b_At X k R Q p e s m args below meth c pc cs ss ws al st := by
  have hC0 := hC
  obtain ⟨hx, hb, hml, hown, hts, hN0, hK, hE, hnm, hR1, hR2, hR3, hR4⟩ := hC
  intro hcs hss H locs ls hP hD hS hlv
  have hA : ∀ q, s.heap.size ≤ q → a_A X q := fun q hq => Nat.le_trans hN0 hq
  cases i
  case iconst n =>
    simp only [b_ok, a_ok, Bool.and_eq_true, decide_eq_true_eq, beq_iff_eq] at hok
    obtain ⟨hd, hv, rfl⟩ := hok
    exact lv_iconst hx hb hd hv (hN _ _ _ _ _ h hcs hss H locs ls hP hD hS hlv)
  case bipush n =>
    simp only [b_ok, a_ok, Bool.and_eq_true, decide_eq_true_eq, beq_iff_eq] at hok
    obtain ⟨hd, hv, rfl⟩ := hok
    exact lv_bipush hx hb hd hv (hN _ _ _ _ _ h hcs hss H locs ls hP hD hS hlv)
  case sipush n =>
    simp only [b_ok, a_ok, Bool.and_eq_true, decide_eq_true_eq, beq_iff_eq] at hok
    obtain ⟨hd, hv, rfl⟩ := hok
    exact lv_sipush hx hb hd hv (hN _ _ _ _ _ h hcs hss H locs ls hP hD hS hlv)
  case aconst_null =>
    simp only [b_ok, a_ok, Bool.and_eq_true, decide_eq_true_eq, beq_iff_eq] at hok
    obtain ⟨hd, rfl⟩ := hok
    exact lv_null hx hb hd (hN _ _ _ _ _ h hcs hss H locs ls hP hD hS hlv)
  case iload_n j =>
    simp only [b_ok, a_ok, Bool.and_eq_true, decide_eq_true_eq, beq_iff_eq] at hok
    obtain ⟨hd, hj, rfl⟩ := hok
    obtain ⟨v, h1, h2⟩ := a_vi_inv h
    exact lv_iload_n hx hb hd hj (b_ld_has hlv h1) (hN _ _ _ _ _ h2 hcs hss H locs ls hP hD hS hlv)
  case iload j =>
    simp only [b_ok, a_ok, Bool.and_eq_true, decide_eq_true_eq, beq_iff_eq] at hok
    obtain ⟨hd, rfl, rfl⟩ := hok
    obtain ⟨v, h1, h2⟩ := a_vi_inv h
    exact lv_iload hx hb hd (b_ld_has hlv h1) (hN _ _ _ _ _ h2 hcs hss H locs ls hP hD hS hlv)
  case aload_n j =>
    simp only [b_ok, a_ok, Bool.and_eq_true, decide_eq_true_eq, beq_iff_eq] at hok
    obtain ⟨hd, hj, rfl⟩ := hok
    obtain ⟨v, h1, h2⟩ := a_vr_inv h
    exact lv_aload_n hx hb hd hj (b_ld_has hlv h1) (hN _ _ _ _ _ h2 hcs hss H locs ls hP hD hS hlv)
  case aload j =>
    simp only [b_ok, a_ok, Bool.and_eq_true, decide_eq_true_eq, beq_iff_eq] at hok
    obtain ⟨hd, rfl, rfl⟩ := hok
    obtain ⟨v, h1, h2⟩ := a_vr_inv h
    exact lv_aload hx hb hd (b_ld_has hlv h1) (hN _ _ _ _ _ h2 hcs hss H locs ls hP hD hS hlv)
  case istore_n j =>
    simp only [b_ok, a_ok, Bool.and_eq_true, decide_eq_true_eq, beq_iff_eq] at hok
    obtain ⟨hd, hj, rfl, hn⟩ := hok
    obtain ⟨v, r, rfl, h1⟩ := a_i1_inv h
    obtain ⟨h2, h3⟩ := a_if_inv h1
    exact lv_istore_n hx hb hd hj hlv (Nat.le_of_ble_eq_true hn) rfl (fun ls' hl' => hN _ _ _ _ _ h3 hcs hss H locs ls' hP hD hS (b_sto_has h2 hl'))
  case istore j =>
    simp only [b_ok, a_ok, Bool.and_eq_true, decide_eq_true_eq, beq_iff_eq] at hok
    obtain ⟨hd, rfl, rfl, hn⟩ := hok
    obtain ⟨v, r, rfl, h1⟩ := a_i1_inv h
    obtain ⟨h2, h3⟩ := a_if_inv h1
    exact lv_istore hx hb hd hlv (Nat.le_of_ble_eq_true hn) rfl (fun ls' hl' => hN _ _ _ _ _ h3 hcs hss H locs ls' hP hD hS (b_sto_has h2 hl'))
  case astore_n j =>
    simp only [b_ok, a_ok, Bool.and_eq_true, decide_eq_true_eq, beq_iff_eq] at hok
    obtain ⟨hd, hj, rfl, hn⟩ := hok
    obtain ⟨v, r, rfl, h1⟩ := a_r1_inv h
    obtain ⟨h2, h3⟩ := a_if_inv h1
    exact lv_astore_n hx hb hd hj hlv (Nat.le_of_ble_eq_true hn) rfl (fun ls' hl' => hN _ _ _ _ _ h3 hcs hss H locs ls' hP hD hS (b_sto_has h2 hl'))
  case astore j =>
    simp only [b_ok, a_ok, Bool.and_eq_true, decide_eq_true_eq, beq_iff_eq] at hok
    obtain ⟨hd, rfl, rfl, hn⟩ := hok
    obtain ⟨v, r, rfl, h1⟩ := a_r1_inv h
    obtain ⟨h2, h3⟩ := a_if_inv h1
    exact lv_astore hx hb hd hlv (Nat.le_of_ble_eq_true hn) rfl (fun ls' hl' => hN _ _ _ _ _ h3 hcs hss H locs ls' hP hD hS (b_sto_has h2 hl'))
  case iinc j n =>
    simp only [b_ok, a_ok, Bool.and_eq_true, decide_eq_true_eq, beq_iff_eq] at hok
    obtain ⟨hd, rfl, rfl, hn, hc⟩ := hok
    obtain ⟨v, h1, h2⟩ := a_vi_inv h
    obtain ⟨h3, h4⟩ := a_if_inv h2
    obtain ⟨kk, hkk⟩ := List.getElem?_of_mem (a_ld_mem h1)
    exact lv_iinc hx hb hd hlv hkk (by rw [hc]) (Nat.le_of_ble_eq_true hn) rfl (fun ls' hl' => hN _ _ _ _ _ h4 hcs hss H locs ls' hP hD hS (b_sto_has h3 hl'))
  case iadd =>
    simp only [b_ok, a_ok, Bool.and_eq_true, decide_eq_true_eq, beq_iff_eq] at hok
    obtain ⟨hd, rfl⟩ := hok
    obtain ⟨a, b, r, rfl, h1⟩ := a_i2_inv h
    exact lv_iadd hx hb hd (hN _ _ _ _ _ h1 hcs hss H locs ls hP hD hS hlv)
  case isub =>
    simp only [b_ok, a_ok, Bool.and_eq_true, decide_eq_true_eq, beq_iff_eq] at hok
    obtain ⟨hd, rfl⟩ := hok
    obtain ⟨a, b, r, rfl, h1⟩ := a_i2_inv h
    exact lv_isub hx hb hd (hN _ _ _ _ _ h1 hcs hss H locs ls hP hD hS hlv)
  case iand =>
    simp only [b_ok, a_ok, Bool.and_eq_true, decide_eq_true_eq, beq_iff_eq] at hok
    obtain ⟨hd, rfl⟩ := hok
    obtain ⟨a, b, r, rfl, h1⟩ := a_i2_inv h
    exact lv_iand hx hb hd (hN _ _ _ _ _ h1 hcs hss H locs ls hP hD hS hlv)
  case ishr =>
    simp only [b_ok, a_ok, Bool.and_eq_true, decide_eq_true_eq, beq_iff_eq] at hok
    obtain ⟨hd, rfl⟩ := hok
    obtain ⟨a, b, r, rfl, h1⟩ := a_i2_inv h
    exact lv_ishr hx hb hd (hN _ _ _ _ _ h1 hcs hss H locs ls hP hD hS hlv)
  case i2c =>
    simp only [b_ok, a_ok, Bool.and_eq_true, decide_eq_true_eq, beq_iff_eq] at hok
    obtain ⟨hd, rfl⟩ := hok
    obtain ⟨a, r, rfl, h1⟩ := a_i1_inv h
    exact lv_i2c hx hb hd rfl (hN _ _ _ _ _ h1 hcs hss H locs ls hP hD hS hlv)
  case i2l =>
    simp only [b_ok, a_ok, Bool.and_eq_true, decide_eq_true_eq, beq_iff_eq] at hok
    obtain ⟨hd, rfl⟩ := hok
    obtain ⟨a, r, rfl, h1⟩ := a_i1_inv h
    exact lv_i2l hx hb hd rfl (hN _ _ _ _ _ h1 hcs hss H locs ls hP hD hS hlv)
  case lcmp =>
    simp only [b_ok, a_ok, Bool.and_eq_true, decide_eq_true_eq, beq_iff_eq] at hok
    obtain ⟨hd, rfl⟩ := hok
    obtain ⟨a, b, r, rfl, h1⟩ := a_l2_inv h
    exact W.lcmp hx hb hd (hN _ _ _ _ _ h1 hcs hss H locs ls hP hD hS hlv)
  case dup =>
    simp only [b_ok, a_ok, Bool.and_eq_true, decide_eq_true_eq, beq_iff_eq] at hok
    obtain ⟨hd, rfl⟩ := hok
    simp only [b_one] at h
    split at h
    · exact lv_dup hx hb hd rfl (hN _ _ _ _ _ h hcs hss H locs ls hP hD hS hlv)
    · exact lv_dup hx hb hd rfl (hN _ _ _ _ _ h hcs hss H locs ls hP hD hS hlv)
    · exact h.elim
  case dup_x1 =>
    simp only [b_ok, a_ok, Bool.and_eq_true, decide_eq_true_eq, beq_iff_eq] at hok
    obtain ⟨hd, rfl⟩ := hok
    simp only [b_one] at h
    split at h
    · exact lv_dup_x1 hx hb hd rfl rfl (hN _ _ _ _ _ h hcs hss H locs ls hP hD hS hlv)
    · exact h.elim
  case pop =>
    simp only [b_ok, a_ok, Bool.and_eq_true, decide_eq_true_eq, beq_iff_eq] at hok
    obtain ⟨hd, rfl⟩ := hok
    simp only [b_one] at h
    split at h
    · exact lv_pop hx hb hd rfl (hN _ _ _ _ _ h hcs hss H locs ls hP hD hS hlv)
    · exact lv_pop hx hb hd rfl (hN _ _ _ _ _ h hcs hss H locs ls hP hD hS hlv)
    · exact h.elim
  case ifCond cd off =>
    simp only [b_ok, a_ok, Bool.and_eq_true, decide_eq_true_eq, beq_iff_eq] at hok
    obtain ⟨hd, ht, rfl⟩ := hok
    obtain ⟨a, r, rfl, h1⟩ := a_i1_inv h
    cases cd
    · exact lv_if_eq hx hb hd ht (fun g => hJ _ _ _ _ _ _ (h1.1 g) hcs hss H locs ls hP hD hS hlv) (fun g => hN _ _ _ _ _ (h1.2 g) hcs hss H locs ls hP hD hS hlv)
    · exact lv_if_ne hx hb hd ht (fun g => hJ _ _ _ _ _ _ (h1.1 g) hcs hss H locs ls hP hD hS hlv) (fun g => hN _ _ _ _ _ (h1.2 g) hcs hss H locs ls hP hD hS hlv)
    · exact lv_if_lt hx hb hd ht (fun g => hJ _ _ _ _ _ _ (h1.1 g) hcs hss H locs ls hP hD hS hlv) (fun g => hN _ _ _ _ _ (h1.2 g) hcs hss H locs ls hP hD hS hlv)
    · exact lv_if_ge hx hb hd ht (fun g => hJ _ _ _ _ _ _ (h1.1 g) hcs hss H locs ls hP hD hS hlv) (fun g => hN _ _ _ _ _ (h1.2 g) hcs hss H locs ls hP hD hS hlv)
    · exact lv_if_gt hx hb hd ht (fun g => hJ _ _ _ _ _ _ (h1.1 g) hcs hss H locs ls hP hD hS hlv) (fun g => hN _ _ _ _ _ (h1.2 g) hcs hss H locs ls hP hD hS hlv)
    · exact lv_if_le hx hb hd ht (fun g => hJ _ _ _ _ _ _ (h1.1 g) hcs hss H locs ls hP hD hS hlv) (fun g => hN _ _ _ _ _ (h1.2 g) hcs hss H locs ls hP hD hS hlv)
  case if_icmp cd off =>
    simp only [b_ok, a_ok, Bool.and_eq_true, decide_eq_true_eq, beq_iff_eq] at hok
    obtain ⟨hd, ht, rfl⟩ := hok
    obtain ⟨a, b, r, rfl, h1⟩ := a_i2_inv h
    cases cd
    · exact lv_icmp_eq hx hb hd ht (fun g => hJ _ _ _ _ _ _ (h1.1 g) hcs hss H locs ls hP hD hS hlv) (fun g => hN _ _ _ _ _ (h1.2 g) hcs hss H locs ls hP hD hS hlv)
    · exact lv_icmp_ne hx hb hd ht (fun g => hJ _ _ _ _ _ _ (h1.1 g) hcs hss H locs ls hP hD hS hlv) (fun g => hN _ _ _ _ _ (h1.2 g) hcs hss H locs ls hP hD hS hlv)
    · exact lv_icmp_lt hx hb hd ht (fun g => hJ _ _ _ _ _ _ (h1.1 g) hcs hss H locs ls hP hD hS hlv) (fun g => hN _ _ _ _ _ (h1.2 g) hcs hss H locs ls hP hD hS hlv)
    · exact lv_icmp_ge hx hb hd ht (fun g => hJ _ _ _ _ _ _ (h1.1 g) hcs hss H locs ls hP hD hS hlv) (fun g => hN _ _ _ _ _ (h1.2 g) hcs hss H locs ls hP hD hS hlv)
    · exact lv_icmp_gt hx hb hd ht (fun g => hJ _ _ _ _ _ _ (h1.1 g) hcs hss H locs ls hP hD hS hlv) (fun g => hN _ _ _ _ _ (h1.2 g) hcs hss H locs ls hP hD hS hlv)
    · exact lv_icmp_le hx hb hd ht (fun g => hJ _ _ _ _ _ _ (h1.1 g) hcs hss H locs ls hP hD hS hlv) (fun g => hN _ _ _ _ _ (h1.2 g) hcs hss H locs ls hP hD hS hlv)
  case if_acmp cd off =>
    simp only [b_ok, Bool.and_eq_true, decide_eq_true_eq, beq_iff_eq] at hok
    obtain ⟨hd, ht, rfl⟩ := hok
    simp only [b_one] at h
    split at h
    · rename_i y x r
      cases cd
      · exact lv_acmp_eq (rx := some x) (ry := some y) hx hb hd ht (fun g => hJ _ _ _ _ _ _ (h.1 (Option.some.inj g)) hcs hss H locs ls hP hD hS hlv) (fun g => hN _ _ _ _ _ (h.2 (fun g2 => g (by rw [g2]))) hcs hss H locs ls hP hD hS hlv)
      · exact lv_acmp_ne (rx := some x) (ry := some y) hx hb hd ht (fun g => hJ _ _ _ _ _ _ (h.1 (fun g2 => g (by rw [g2]))) hcs hss H locs ls hP hD hS hlv) (fun g => hN _ _ _ _ _ (h.2 (Option.some.inj g)) hcs hss H locs ls hP hD hS hlv)
    · exact h.elim
  case goto off =>
    simp only [b_ok, a_ok, Bool.and_eq_true, decide_eq_true_eq, beq_iff_eq] at hok
    obtain ⟨hd, ht, rfl⟩ := hok
    exact lv_goto hx hb hd ht (hJ _ _ _ _ _ _ h hcs hss H locs ls hP hD hS hlv)
  case tableswitch d lo hi offs =>
    simp only [b_ok, a_ok, Bool.and_eq_true, decide_eq_true_eq, beq_iff_eq] at hok
    obtain ⟨hd, hp0, hp1, hp2, hp3, hp4⟩ := hok
    obtain ⟨a, r, rfl, h1, h2⟩ := a_i1_inv h
    by_cases ho : a.toInt < lo ∨ hi < a.toInt
    · exact lv_tableOut hx hb hd ho (by rw [Int.toNat_of_nonneg hp0]) (hJ _ _ _ _ _ _ (h2 ho) hcs hss H locs ls hP hD hS hlv)
    · have ho1 : ¬ a.toInt < lo := fun q => ho (Or.inl q)
      have ho2 : ¬ hi < a.toInt := fun q => ho (Or.inr q)
      have hlt : (a.toInt - lo).toNat < offs.toList.length := by omega
      have hget : offs.toList[(a.toInt - lo).toNat]? = some offs.toList[(a.toInt - lo).toNat] := List.getElem?_eq_getElem hlt
      have hnn : 0 ≤ (pc : Int) + offs.toList[(a.toInt - lo).toNat] := of_decide_eq_true (List.all_eq_true.mp hp1 _ (List.getElem_mem hlt))
      exact lv_tableIn hx hb hd ho1 ho2 (by rw [← Array.getElem?_toList]; exact hget) (by rw [Int.toNat_of_nonneg hnn]) (hJ _ _ _ _ _ _ (a_sw_at h1 hget (by omega) (by omega) (by omega)) hcs hss H locs ls hP hD hS hlv)
  case getfield ix =>
    simp only [b_ok, Bool.and_eq_true, decide_eq_true_eq, beq_iff_eq] at hok
    obtain ⟨hd, rfl, hok⟩ := hok
    obtain ⟨a, r, rfl, h1⟩ := a_r1_inv h
    split at hok
    · obtain ⟨v, h2, h3⟩ := h1
      exact vk_getf hx hb (h2 s hE) hS hown (hts _ (a_w_in hok)) (fun _ g => g) hd (hN _ _ _ _ _ h3 hcs hss H locs ls hP hD hS hlv)
    · rename_i hne
      split at hok
      · rename_i q0 hq0
        obtain ⟨C, T, n⟩ := q0
        simp only [Bool.and_eq_true] at hok
        obtain ⟨hkN, hok⟩ := hok
        have hmem := List.mem_of_getElem? hq0
        split at h1
        · exact absurd rfl hne
        · obtain ⟨q0, fs, v, he, hv, h5⟩ := h1
          have hG := hN _ _ _ _ _ h5 hcs hss H locs ls hP hD hS hlv
          split at hok
          · rw [Bool.or_eq_true, Bool.and_eq_true] at hok
            rcases hok with hok | hok
            · exact va_get hx hb hts (fun w hw => a_cls_in _ hmem w hw) hown hK hP q0 he hq0 a2 (Nat.le_of_ble_eq_true hkN) (hts _ (a_w_in hok)) (fun _ g => g) hv hd hG
            · exact va_get hx hb hts (fun w hw => a_cls_in _ hmem w hw) hown hK hP q0 he hq0 a2 (Nat.le_of_ble_eq_true hkN) (hts _ (a_w_in hok.1)) (fun x g => u_same (hts _ (a_w_in hok.2)) x g) hv hd hG
          · obtain ⟨n1, n2⟩ := a_nw_in hok
            exact va_getN hx hb hts (fun w hw => a_cls_in _ hmem w hw) hown hK hP q0 he hq0 a2 (Nat.le_of_ble_eq_true hkN) (va_Nw.use rfl (hX.2.1 s hE _ n1 n2)) (fun _ g => g) hv hd hG
      · cases hok
  case putfield ix =>
    simp only [b_ok, Bool.and_eq_true, decide_eq_true_eq, beq_iff_eq] at hok
    obtain ⟨hd, rfl, hok⟩ := hok
    simp only [b_one] at h
    split at h
    · rename_i v a r
      obtain ⟨q0, fs, he, hlen, h5⟩ := h
      split at hok
      · rename_i q1 hq0
        obtain ⟨C, T, n⟩ := q1
        simp only [Bool.and_eq_true, Bool.or_eq_true, beq_iff_eq] at hok
        obtain ⟨hkN, hl, hfin, hty⟩ := hok
        have hkN := Nat.le_of_ble_eq_true hkN
        have hmem := List.mem_of_getElem? hq0
        have hlk : ∃ ref : String, (Cond.fieldLink k.1.cls ix ref (T a2).2.1 (T a2).2.2.1).before args s = true ∧ ∀ x, s.fieldFound? (T a2).1 (T a2).2.1 (T a2).2.2.1 = some x → s.fieldFound? ref (T a2).2.1 (T a2).2.2.1 = some x := by
          rcases hl with hl | ⟨hl, hl2⟩
          · exact ⟨_, hts _ (a_w_in hl), fun _ g => g⟩
          · exact ⟨_, hts _ (a_w_in hl), fun x g => u_same (hts _ (a_w_in hl2)) x g⟩
        obtain ⟨ref0, hl1, hl2⟩ := hlk
        have main : narrow (a_ty (C, T, n) a2) v = v → fits (a_ty (C, T, n) a2) v = true → N cs ss (ws.set q0 (a, .inr (a1, fs.set a2 v))) al r → W p X.1 e R s m args below meth c H locs cs ss Q (F0 m pc ls (v :: .ref a :: r)) := by
          intro hn hf hG
          rcases hfin with hfin | ⟨hfi, hdc⟩
          · exact va_put hx hb hts (fun w hw => a_cls_in _ hmem w hw) (a_ty (C, T, n)) (a_cls_ty _ hmem) (a_cls_nm _ hmem) hown hK hP hD hS q0 he hq0 a2 hkN hl1 hl2 hfin (a_cls_ty _ hmem a2 hkN) hn hf hlen hd (fun H1 locs1 g1 g2 g3 => hN _ _ _ _ _ hG hcs hss H1 locs1 ls g1 g2 g3 hlv)
          · cases hfn : (T a2).2.2.2 with
            | false => exact va_put hx hb hts (fun w hw => a_cls_in _ hmem w hw) (a_ty (C, T, n)) (a_cls_ty _ hmem) (a_cls_nm _ hmem) hown hK hP hD hS q0 he hq0 a2 hkN hl1 hl2 hfn (a_cls_ty _ hmem a2 hkN) hn hf hlen hd (fun H1 locs1 g1 g2 g3 => hN _ _ _ _ _ hG hcs hss H1 locs1 ls g1 g2 g3 hlv)
            | true => exact va_putF hx hb hts (fun w hw => a_cls_in _ hmem w hw) (a_ty (C, T, n)) (a_cls_ty _ hmem) (a_cls_nm _ hmem) hown hK hP hD hS q0 he hq0 a2 hkN hl1 hl2 hfn (hnm.trans hfi) hdc (a_cls_ty _ hmem a2 hkN) hn hf hlen hd (fun H1 locs1 g1 g2 g3 => hN _ _ _ _ _ hG hcs hss H1 locs1 ls g1 g2 g3 hlv)
        unfold b_fit at h5
        split at h5
        · have hty := of_decide_eq_true hty
          exact main (by rw [hty]; rfl) (by rw [hty]; rfl) h5
        · have hty := of_decide_eq_true hty
          obtain ⟨h6, h7⟩ := h5
          rcases h6 with rfl | rfl
          · exact main (by rw [hty]; rfl) (by rw [hty]; rfl) h7
          · exact main (by rw [hty]; rfl) (by rw [hty]; rfl) h7
        · have hty2 : (match a_ty (C, T, n) a2 with
            | .object _ => true
            | .array _ => true
            | _ => false) = true := hty
          split at hty2
          · rename_i n0 hty3
            exact main (by rw [hty3]; rfl) (by rw [hty3]; rfl) h5
          · rename_i n0 hty3
            exact main (by rw [hty3]; rfl) (by rw [hty3]; rfl) h5
          · cases hty2
        · exact h5.elim
      · cases hok
    · exact h.elim
  case getstatic ix =>
    simp only [b_ok, Bool.and_eq_true, decide_eq_true_eq, beq_iff_eq] at hok
    obtain ⟨hd, rfl, hl⟩ := hok
    obtain ⟨v, h1, h2⟩ := h
    exact va_gets hx hb (h1 s hE) hS hown (hts _ (a_w_in hl)) (fun _ g => g) hd (hN _ _ _ _ _ h2 hcs hss H locs ls hP hD hS hlv)
  case arraylength =>
    simp only [b_ok, a_ok, Bool.and_eq_true, decide_eq_true_eq, beq_iff_eq] at hok
    obtain ⟨hd, rfl⟩ := hok
    obtain ⟨a, r, rfl, n, h1, h2⟩ := a_r1_inv h
    have hG := hN _ _ _ _ _ h2 hcs hss H locs ls hP hD hS hlv
    rcases h1 with ⟨q0, t, y, he, ht⟩ | ⟨ty, f, hT⟩ | ⟨xs, hxs⟩
    · match t, ht with
      | 0, _ => exact va_alen hx hb hK hP q0 0 he (ty := .byte) rfl rfl hd hG
      | 1, _ => exact va_alen hx hb hK hP q0 1 he (ty := .char) rfl rfl hd hG
      | 2, _ => exact va_alen hx hb hK hP q0 2 he (ty := .int) rfl rfl hd hG
      | 3, _ => exact va_alen hx hb hK hP q0 3 he (ty := .boolean) rfl rfl hd hG
      | 4, _ => exact va_alen hx hb hK hP q0 4 he (ty := .object "java/lang/Object") rfl rfl hd hG
      | 5, _ => exact va_alen hx hb hK hP q0 5 he (ty := .long) rfl rfl hd hG
    · exact va_tlen hx hb (hT s hE) hS rfl hd hG
    · obtain ⟨g1, g2, g3⟩ := hxs s hE
      exact va_slen hx hb g1 g2 g3 hS hd hG
  case baload =>
    simp only [b_ok, a_ok, Bool.and_eq_true, decide_eq_true_eq, beq_iff_eq] at hok
    obtain ⟨hd, rfl⟩ := hok
    simp only [b_one] at h
    split at h
    · obtain ⟨n, f, hT, m9, ⟨h5, h6, rfl⟩, h7⟩ := h
      exact va_tb hx hb (hT s hE) hS (vp_in_nI' h5 h6) (by rw [nI_clamp h6]) hd (hN _ _ _ _ _ h7 hcs hss H locs ls hP hD hS hlv)
    · exact h.elim
  case iaload =>
    simp only [b_ok, a_ok, Bool.and_eq_true, decide_eq_true_eq, beq_iff_eq] at hok
    obtain ⟨hd, rfl⟩ := hok
    simp only [b_one] at h
    split at h
    · obtain ⟨n, f, hT, m9, ⟨h5, h6, rfl⟩, h7⟩ := h
      obtain ⟨g1, g2, g3⟩ := hT s hE
      refine va_sld hx hb g1 g2 g3 hS (vp_in_nI' h5 h6) hd ?_
      rw [nI_clamp h6]
      exact hN _ _ _ _ _ h7 hcs hss H locs ls hP hD hS hlv
    · exact h.elim
  case aaload =>
    simp only [b_ok, a_ok, Bool.and_eq_true, decide_eq_true_eq, beq_iff_eq] at hok
    obtain ⟨hd, rfl⟩ := hok
    simp only [b_one] at h
    split at h
    · obtain ⟨q0, n, f, he, m9, ⟨h5, h6, rfl⟩, h7⟩ := h
      refine va_aldq (C := "java/lang/Object") hx hb hK hP q0 4 he rfl (vp_in_nI' h5 h6) hd ?_
      rw [nI_clamp h6]
      exact hN _ _ _ _ _ h7 hcs hss H locs ls hP hD hS hlv
    · exact h.elim
  case laload =>
    simp only [b_ok, a_ok, Bool.and_eq_true, decide_eq_true_eq, beq_iff_eq] at hok
    obtain ⟨hd, rfl⟩ := hok
    simp only [b_one] at h
    split at h
    · obtain ⟨q0, n, f, he, m9, ⟨h5, h6, rfl⟩, h7⟩ := h
      refine va_lald hx hb hK hP q0 5 he rfl (vp_in_nI' h5 h6) hd ?_
      rw [nI_clamp h6]
      exact hN _ _ _ _ _ h7 hcs hss H locs ls hP hD hS hlv
    · exact h.elim
  case lastore =>
    simp only [b_ok, a_ok, Bool.and_eq_true, decide_eq_true_eq, beq_iff_eq] at hok
    obtain ⟨hd, rfl⟩ := hok
    simp only [b_one] at h
    split at h
    · obtain ⟨q0, n, f, he, m9, ⟨h5, h6, rfl⟩, h7⟩ := h
      refine va_last hx hb hK hP hD hS q0 5 he rfl (vp_in_nI' h5 h6) hd (fun H1 locs1 g1 g2 g3 => ?_)
      rw [nI_clamp h6] at g1 g2
      exact hN _ _ _ _ _ h7 hcs hss H1 locs1 ls g1 g2 g3 hlv
    · exact h.elim
  case aastore =>
    simp only [b_ok, Bool.and_eq_true, decide_eq_true_eq, beq_iff_eq] at hok
    obtain ⟨hd, rfl, hca⟩ := hok
    simp only [b_one] at h
    split at h
    · obtain ⟨q0, n, f, qk, vs, he, hv, m9, ⟨h5, h6, rfl⟩, h7⟩ := h
      refine va_astqM (E := "java/lang/Object") hx hb hK hP hD hS q0 4 he rfl (b_Any hX hE hK hP hca hv) (vp_in_nI' h5 h6) hd (fun H1 locs1 g1 g2 g3 => ?_)
      rw [nI_clamp h6] at g1 g2
      exact hN _ _ _ _ _ h7 hcs hss H1 locs1 ls g1 g2 g3 hlv
    · exact h.elim
  case new ix =>
    simp only [b_ok, Bool.and_eq_true, decide_eq_true_eq, beq_iff_eq] at hok
    obtain ⟨hd, rfl, hok⟩ := hok
    obtain ⟨⟨h1, h2⟩, h3⟩ := h
    split at hok
    · rename_i q1 hq0
      obtain ⟨C, T, n⟩ := q1
      simp only [Bool.and_eq_true, beq_iff_eq] at hok
      obtain ⟨w1, w2, w3, rfl, w5⟩ := hok
      have hmem := List.mem_of_getElem? hq0
      refine va_new hx hb hts (fun w hw => a_cls_in _ hmem w hw) (a_ty (C, T, n)) (a_cls_ty _ hmem) hown (hts _ (a_w_in w1)) (hts _ (a_w_in w2)) (hts _ (a_w_in w3)) hK hP hD hS hA hq0 (fs := b_df a1) (fun j hj => of_decide_eq_true (List.all_eq_true.mp w5 j (List.mem_range.mpr hj))) (Nat.le_trans h1 hR3) (Nat.le_trans h2 hR4) hd (fun q H1 g1 g2 g3 => ?_)
      exact hN _ _ _ _ _ (h3 q) h1 h2 H1 locs ls (g1.pm (b_front _ _)) (g2.pm (b_front _ _)) g3 hlv
    · cases hok
  case newarray t =>
    simp only [b_ok, Bool.and_eq_true, decide_eq_true_eq, beq_iff_eq] at hok
    obtain ⟨hd, rfl, hw, hok⟩ := hok
    obtain ⟨n, r, rfl, m9, ⟨rfl, hm⟩, ⟨h1, h2⟩, h3⟩ := a_i1_inv h
    split at hok
    · exact b_newa hC0 hP hD hS (a_w_in hw) (ty := .byte) rfl (t := 0) rfl (fun _ => by simp) (fun _ => rfl) hm (by decide) h1 h2 hd (fun q H1 g1 g2 g3 => hN _ _ _ _ _ (h3 q) h1 h2 H1 locs ls g1 g2 g3 hlv)
    · exact b_newa hC0 hP hD hS (a_w_in hw) (ty := .char) rfl (t := 1) rfl (fun _ => by simp) (fun _ => rfl) hm (by decide) h1 h2 hd (fun q H1 g1 g2 g3 => hN _ _ _ _ _ (h3 q) h1 h2 H1 locs ls g1 g2 g3 hlv)
    · exact b_newa hC0 hP hD hS (a_w_in hw) (ty := .int) rfl (t := 2) rfl (fun _ => by simp) (fun _ => rfl) hm (by decide) h1 h2 hd (fun q H1 g1 g2 g3 => hN _ _ _ _ _ (h3 q) h1 h2 H1 locs ls g1 g2 g3 hlv)
    · exact b_newa hC0 hP hD hS (a_w_in hw) (ty := .boolean) rfl (t := 3) rfl (fun _ => by simp) (fun _ => rfl) hm (by decide) h1 h2 hd (fun q H1 g1 g2 g3 => hN _ _ _ _ _ (h3 q) h1 h2 H1 locs ls g1 g2 g3 hlv)
    · exact b_newa hC0 hP hD hS (a_w_in hw) (ty := .long) rfl (t := 5) rfl (fun _ => by simp) (fun _ => rfl) hm (by decide) h1 h2 hd (fun q H1 g1 g2 g3 => hN _ _ _ _ _ (h3 q) h1 h2 H1 locs ls g1 g2 g3 hlv)
    · cases hok
  case anewarray ix =>
    simp only [b_ok, Bool.and_eq_true, decide_eq_true_eq, beq_iff_eq] at hok
    obtain ⟨hd, rfl, hw⟩ := hok
    obtain ⟨n, r, rfl, m9, ⟨rfl, hm⟩, ⟨h1, h2⟩, h3⟩ := a_i1_inv h
    refine va_newq hx hb hown (hts _ (a_w_in hw)) (hX.2.2 s hE).1 hK hP hD hS hA (nI_pos (by omega)) (nI_clamp (by omega)) (by omega) (by omega) (by omega) hd (fun q cA H1 g0 g1 g2 g3 => ?_)
    have e1 := va_nmO (g0.2 6 (cA, .object "java/lang/Object") rfl).2 rfl
    have e2 := va_nmO (hK.2 4 _ rfl).2 rfl
    have e3 : cA = X.2.2.1 4 := Option.some.inj (e1.symm.trans e2)
    subst e3
    exact hN _ _ _ _ _ (h3 q) h1 h2 H1 locs ls (g1.pm (b_front _ _)) (g2.pm (b_front _ _)) g3 hlv
  case ldc ix =>
    simp only [b_ok, Bool.and_eq_true, decide_eq_true_eq, beq_iff_eq] at hok
    obtain ⟨hd, rfl, hok⟩ := hok
    simp only [b_one] at h
    split at hok
    · obtain ⟨mi, h1, h2⟩ := h
      exact va_ldcM hx hb hown (hts _ (a_w_in hok)) (h1 s hE) hd (hN _ _ _ _ _ h2 hcs hss H locs ls hP hD hS hlv)
    · rename_i hne
      split at h
      · exact absurd rfl hne
      · exact lv_ldc hx hb hown (hts _ (a_w_in hok)) hd (hN _ _ _ _ _ h hcs hss H locs ls hP hD hS hlv)
  case checkcast ix =>
    simp only [b_ok, Bool.and_eq_true, decide_eq_true_eq, beq_iff_eq] at hok
    obtain ⟨hd, rfl, hl⟩ := hok
    obtain ⟨a, r, rfl, q0, n, f, he, h1⟩ := a_r1_inv h
    exact va_castA hx hb hown (hts _ (a_w_in hl)) hP q0 he (va_nm_byte (hK.2 0 _ rfl).2) hd (hN _ _ _ _ _ h1 hcs hss H locs ls hP hD hS hlv)
  case invokevirtual ix =>
    simp only [b_ok, Bool.and_eq_true, decide_eq_true_eq, beq_iff_eq] at hok
    obtain ⟨hd, rfl, hok⟩ := hok
    simp only [b_one] at h
    cases q with
    | none =>
      simp only [Bool.and_eq_true] at hok
      obtain ⟨hdp, hok⟩ := hok
      have hdp := Nat.le_of_ble_eq_true hdp
      obtain ⟨a, r, rfl, h0⟩ := a_r1_inv h
      obtain ⟨h4, h5⟩ := a_if_inv h0
      have h4 := Nat.le_of_ble_eq_true h4
      split at hok
      · simp only [Bool.and_eq_true] at hok
        obtain ⟨w1, w2, w3, w4⟩ := hok
        obtain ⟨mi, q0, n, f, h1, he, h2⟩ := h5
        refine va_getC (C := "[Ljava/lang/Object;") hx hb (by rw [hml, hlv.1]) hown (hts _ (a_w_in w1)) (va_Dc.use (hX.2.2 s hE).2) (hts _ (a_w_in w2)) (hts _ (a_w_in w3)) (hts _ (a_w_in w4)) (h1 s hE) ⟨_, hP q0 _ he, rfl, va_nmO (hK.2 4 _ rfl).2 (by decide +kernel)⟩ (by omega) (by omega) hd (hN _ _ _ _ _ h2 hcs hss H locs ls hP hD hS hlv)
      · rename_i hne
        simp only [Bool.and_eq_true] at hok
        obtain ⟨w1, w2, w3, w4, w5, w6⟩ := hok
        split at h5
        · exact absurd rfl hne
        · obtain ⟨n1, n2⟩ := a_nw_in w6
          obtain ⟨q0, n, f, he, hf, ⟨h6, h7⟩, h8⟩ := h5
          refine va_clone (ty := .byte) hx hb (by rw [hml, hlv.1]) hown (hts _ (a_w_in w1)) (hts _ (a_w_in w2)) (hts _ (a_w_in w3)) (hts _ (a_w_in w4)) (hts _ (a_w_in w5)) (hX.2.1 s hE _ n1 n2) hK hP hD hS hA q0 0 he rfl (va_nm_byte (hK.2 0 _ rfl).2) (fun i v hv => va_fit (F := fun j => .int (f j)) hf i v hv) (by omega) (by omega) (by omega) (by simp only; omega) hd (fun b H1 g0 g1 g2 g3 => ?_)
          exact hN _ _ _ _ _ (h8 b) h6 h7 H1 locs ls (g1.pm (b_front _ _)) (g2.pm (b_front _ _)) g3 hlv
    | some q9 =>
      simp only [Bool.and_eq_true] at hok
      obtain ⟨hm, hl, hin, hse, hini, hrc⟩ := hok
      obtain ⟨as, rest, hal, rfl, h1⟩ := a_take_inv h
      rw [List.append_nil] at h1
      obtain ⟨hcode, hR, hnm2⟩ := b_dep hm ⟨hR1, hR2⟩
      unfold b_rc at h1
      split at h1
      · rename_i a bs
        have key : (∃ cell : Cell, H[a]? = some cell ∧ cell.vm.isStatics = false ∧ s.vm.findClass q9.1.cls = some cell.cls) ∧ b_call X k q9 N cs ss ws al (.ref a :: bs) rest := by
          split at h1
          · obtain ⟨⟨q0, fs, he⟩, h2⟩ := h1
            have hrc := of_decide_eq_true hrc
            obtain ⟨r0, hr1, hr2⟩ := Option.map_eq_some_iff.mp hrc
            exact ⟨by rw [← hr2]; exact va_recv hK hP hr1 he, h2⟩
          · obtain ⟨h2, h3⟩ := h1
            have hrc := of_decide_eq_true hrc
            obtain ⟨cell, g1, g2, g3, g4⟩ := h2 s hE
            exact ⟨by rw [hrc]; exact ⟨cell, by rw [hS.2.1 _ ((Array.getElem?_eq_some_iff.mp g1).1) g4]; exact g1, g2, g3⟩, h3⟩
          · exact h1.elim
        obtain ⟨hrecv, h2⟩ := key
        obtain ⟨h4, ⟨hb1, hb2⟩, h6⟩ := b_call_inv h2 hcs hss
        have hst0 : (Value.ref a :: bs).reverse ++ rest = bs.reverse ++ .ref a :: rest := by simp
        refine b_goM (q := q9) (as := (.ref a :: bs).toArray) (rest := rest) hS hlv hN hb1 hb2 ?_
        rw [hst0]
        exact va_runV (As := bs) (rest := rest) (n := a1) ⟨hx, hb, hml, hown, hts⟩ h6
          ⟨callB_of a1 hts (b_good_in hcode) rfl rfl rfl (hts _ (a_w_in hini)) (hts _ (a_w_in hl)) hnm2 hR, hts _ (a_w_in hin), hts _ (a_w_in hse)⟩
          ⟨b_blind hX, hrecv, fun U hU hw => ⟨rfl, b_pre hX hN0 hK hE hP hD hS U hU hw⟩⟩ rfl (by simpa using hal) hlv.1 rfl (by
            show 2 * 0 + _ ≤ 8
            omega) hd ⟨by omega, by omega⟩
      · exact h1.elim
  case invokespecial ix =>
    simp only [b_ok, Bool.and_eq_true, decide_eq_true_eq, beq_iff_eq] at hok
    obtain ⟨hd, rfl, hok⟩ := hok
    simp only [b_one] at h
    cases q with
    | none =>
      simp only [Bool.and_eq_true] at hok
      obtain ⟨hdp, w1, w2, w3⟩ := hok
      have hdp := Nat.le_of_ble_eq_true hdp
      obtain ⟨a, r, rfl, h0⟩ := a_r1_inv h
      obtain ⟨h4, h5⟩ := a_if_inv h0
      have h4 := Nat.le_of_ble_eq_true h4
      exact W.objInit hx hb hown (hts _ (a_w_in w1)) (hts _ (a_w_in w2)) (hts _ (a_w_in w3)) rfl (by rw [hml]; exact hlv.1) rfl hd (by omega) (by show 2 * 0 + _ + 12 ≤ _; omega) (hN _ _ _ _ _ h5 hcs hss H locs ls hP hD hS hlv)
    | some q9 =>
      simp only [Bool.and_eq_true, beq_iff_eq, decide_eq_true_eq] at hok
      obtain ⟨hm, hin, hini, hnmi, hvo, hl⟩ := hok
      obtain ⟨as, rest, hal, rfl, h1⟩ := a_take_inv h
      rw [List.append_nil] at h1
      obtain ⟨hcode, hR, hnm2⟩ := b_dep hm ⟨hR1, hR2⟩
      split at h1
      · rename_i a bs
        obtain ⟨h4, ⟨hb1, hb2⟩, h6⟩ := b_call_inv h1 hcs hss
        have hst0 : (Value.ref a :: bs).reverse ++ rest = bs.reverse ++ .ref a :: rest := by simp
        refine b_goM (q := q9) (as := (.ref a :: bs).toArray) (rest := rest) hS hlv hN hb1 hb2 ?_
        rw [hst0]
        split at hl
        · exact va_runI (As := bs) (rest := rest) (n := a1) ⟨hx, hb, hml, hown, hts⟩ h6
            ⟨callB_of a1 hts (b_good_in hcode) (by rw [a_wsM, hvo]) rfl rfl (hts _ (a_w_in hini)) (hts _ (a_w_in hl)) hnm2 hR, hnmi, hts _ (a_w_in hin)⟩
            ⟨b_blind hX, fun U hU hw => ⟨rfl, b_pre hX hN0 hK hE hP hD hS U hU hw⟩⟩ rfl (by simpa using hal) hlv.1 rfl (by
              show 2 * 0 + _ ≤ 8
              omega) hd ⟨by omega, by omega⟩
        · obtain ⟨n1, n2⟩ := a_nw_in hl
          exact va_runIN (As := bs) (rest := rest) (n := a1) ⟨hx, hb, hml, hown, hts⟩ h6
            ⟨va_cnB a1 hts (b_good_in hcode) (by rw [a_wsM, hvo]) rfl rfl (hX.2.1 s hE _ n1 n2) (hts _ (a_w_in hini)) hnm2 hR, hnmi, hts _ (a_w_in hin)⟩
            ⟨b_blind hX, fun U hU hw => ⟨rfl, b_pre hX hN0 hK hE hP hD hS U hU hw⟩⟩ rfl (by simpa using hal) hlv.1 rfl (by
              show 2 * 0 + _ ≤ 8
              omega) hd ⟨by omega, by omega⟩
      · exact h1.elim
  case invokestatic ix =>
    simp only [b_ok, Bool.and_eq_true, decide_eq_true_eq, beq_iff_eq] at hok
    obtain ⟨hd, rfl, hok⟩ := hok
    simp only [b_one] at h
    cases q with
    | some q9 =>
      simp only [Bool.and_eq_true] at hok
      obtain ⟨hm, hstt, hini, hl⟩ := hok
      obtain ⟨as, rest, hal, rfl, h2⟩ := a_take_inv h
      rw [List.append_nil] at h2
      obtain ⟨hcode, hR, hnm2⟩ := b_dep hm ⟨hR1, hR2⟩
      obtain ⟨h4, ⟨hb1, hb2⟩, h6⟩ := b_call_inv h2 hcs hss
      refine b_goM (q := q9) (as := as.toArray) (rest := rest) hS hlv hN hb1 hb2 ?_
      split at hl
      · exact va_runS (As := as) (rest := rest) (n := a1) ⟨hx, hb, hml, hown, hts⟩ h6
          ⟨callB_of a1 hts (b_good_in hcode) rfl rfl rfl (hts _ (a_w_in hini)) (hts _ (a_w_in hl)) hnm2 hR, hts _ (a_w_in hstt)⟩
          ⟨b_blind hX, fun U hU hw => ⟨rfl, b_pre hX hN0 hK hE hP hD hS U hU hw⟩⟩ rfl (by simpa using hal) hlv.1 rfl (by
            show 2 * 0 + _ ≤ 8
            omega) hd ⟨by omega, by omega⟩
      · obtain ⟨n1, n2⟩ := a_nw_in hl
        exact va_runSN (As := as) (rest := rest) (n := a1) ⟨hx, hb, hml, hown, hts⟩ h6
          ⟨va_cnB a1 hts (b_good_in hcode) rfl rfl rfl (hX.2.1 s hE _ n1 n2) (hts _ (a_w_in hini)) hnm2 hR, hts _ (a_w_in hstt), trivial⟩
          ⟨b_blind hX, fun U hU hw => ⟨rfl, b_pre hX hN0 hK hE hP hD hS U hU hw⟩⟩ rfl (by simpa using hal) hlv.1 rfl (by
            show 2 * 0 + _ ≤ 8
            omega) hd ⟨by omega, by omega⟩
    | none =>
      simp only [Bool.and_eq_true] at hok
      obtain ⟨hdp, hok⟩ := hok
      have hdp := Nat.le_of_ble_eq_true hdp
      have hnf : nativeFrameWords "java/lang/System" "arraycopy" 5 = 7 := by decide +kernel
      match a3, hok, h with
      | 0, hok, h =>
        simp only [Bool.and_eq_true] at hok
        obtain ⟨w1, w2, w3, w4⟩ := hok
        obtain ⟨a, b, r, rfl, h1⟩ := a_i2_inv h
        obtain ⟨h4, h5⟩ := a_if_inv h1
        have h4 := Nat.le_of_ble_eq_true h4
        exact va_mmin hx hb (by rw [hml, hlv.1]) hown (hts _ (a_w_in w1)) (hts _ (a_w_in w2)) (hts _ (a_w_in w3)) (hts _ (a_w_in w4)) (by omega) (by omega) (by omega) (by omega) hd (hN _ _ _ _ _ h5 hcs hss H locs ls hP hD hS hlv)
      | 1, hok, h =>
        simp only [Bool.and_eq_true] at hok
        obtain ⟨w1, w2, w3, w4⟩ := hok
        obtain ⟨a, b, r, rfl, h1⟩ := a_i2_inv h
        obtain ⟨h4, h5⟩ := a_if_inv h1
        have h4 := Nat.le_of_ble_eq_true h4
        exact va_mmax hx hb (by rw [hml, hlv.1]) hown (hts _ (a_w_in w1)) (hts _ (a_w_in w2)) (hts _ (a_w_in w3)) (hts _ (a_w_in w4)) (by omega) (by omega) (by omega) (by omega) hd (hN _ _ _ _ _ h5 hcs hss H locs ls hP hD hS hlv)
      | 2, hok, h =>
        simp only [Bool.and_eq_true] at hok
        obtain ⟨w1, w2, w3, w4, w5⟩ := hok
        simp only at h
        split at h
        · obtain ⟨h4, n', d', s', q0, q1, n0, n1, f, g, ⟨rfl, rfl, rfl, h5, h6, h7, h8⟩, e0, e1, hf, h9⟩ := a_if_inv h
          have h4 := Nat.le_of_ble_eq_true h4
          refine va_copyi (ty := .byte) hx hb (by rw [hml, hlv.1]) hown (hts _ (a_w_in w1)) (hts _ (a_w_in w2)) (hts _ (a_w_in w3)) (hts _ (a_w_in w4)) hK hP hD hS q0 q1 0 0 e0 e1 rfl rfl rfl (nI_pos (by omega)) (nI_pos (by omega)) (nI_pos (by omega)) (by rw [nI_clamp (by omega), nI_clamp (by omega)]; exact h5) (by rw [nI_clamp (by omega), nI_clamp (by omega)]; exact h6) (by rw [nI_clamp (by omega), nI_clamp (by omega)]; exact hf) (by omega) (by rw [hnf]; omega) hd (fun H1 locs1 g1 g2 g3 => ?_)
          rw [nI_clamp (by omega), nI_clamp (by omega), nI_clamp (by omega)] at g1 g2
          exact hN _ _ _ _ _ h9 hcs hss H1 locs1 ls g1 g2 g3 hlv
        · exact h.elim
      | z9 + 3, hok, h =>
        simp only [Bool.and_eq_true] at hok
        obtain ⟨w1, w2, w3, w4, w5⟩ := hok
        simp only at h
        split at h
        · obtain ⟨h4, n', d', s', q0, q1, n0, n1, f, g, ⟨rfl, rfl, rfl, h5, h6, h7, h8⟩, e0, e1, hf, h9⟩ := a_if_inv h
          have h4 := Nat.le_of_ble_eq_true h4
          refine va_copyM (E0 := "java/lang/Object") (E1 := "java/lang/Object") hx hb (by rw [hml, hlv.1]) hown (hts _ (a_w_in w1)) (hts _ (a_w_in w2)) (hts _ (a_w_in w3)) (hts _ (a_w_in w4)) hK hP hD hS q0 q1 4 4 e0 e1 rfl rfl (nI_pos (by omega)) (nI_pos (by omega)) (nI_pos (by omega)) (by rw [nI_clamp (by omega), nI_clamp (by omega)]; exact h5) (by rw [nI_clamp (by omega), nI_clamp (by omega)]; exact h6) (by
            rw [nI_clamp (by omega), nI_clamp (by omega)]
            intro i hi y hy
            obtain ⟨qk, vs, hv⟩ := hf i hi y hy
            exact b_Any hX hE hK hP w5 hv) (by omega) (by rw [hnf]; omega) hd (fun H1 locs1 g1 g2 g3 => ?_)
          rw [nI_clamp (by omega), nI_clamp (by omega), nI_clamp (by omega)] at g1 g2
          exact hN _ _ _ _ _ h9 hcs hss H1 locs1 ls g1 g2 g3 hlv
        · exact h.elim
  case ireturn =>
    simp only [b_ok, a_ok, Bool.and_eq_true, decide_eq_true_eq, beq_iff_eq] at hok
    obtain ⟨hd, rfl⟩ := hok
    simp only [b_one] at h
    split at h
    · exact hRt _ _ _ _ _ _ _ _ _ _ hd (Or.inl ⟨_, rfl, rfl, rfl⟩) h hcs hss hP hD hS
    · exact h.elim
  case areturn =>
    simp only [b_ok, a_ok, Bool.and_eq_true, decide_eq_true_eq, beq_iff_eq] at hok
    obtain ⟨hd, rfl⟩ := hok
    simp only [b_one] at h
    split at h
    · exact hRt _ _ _ _ _ _ _ _ _ _ hd (Or.inr (Or.inl ⟨_, rfl, rfl, rfl⟩)) h hcs hss hP hD hS
    · exact h.elim
  case return_ =>
    simp only [b_ok, a_ok, Bool.and_eq_true, decide_eq_true_eq, beq_iff_eq] at hok
    obtain ⟨hd, rfl, hrt⟩ := hok
    simp only [b_one] at h
    split at h
    · exact hRt _ _ _ _ _ _ _ _ _ _ hd (Or.inr (Or.inr ⟨rfl, rfl, rfl⟩)) h hcs hss hP hD hS
    · exact h.elim
  all_goals exact h.elim
theorem b_run_ok (hX : b_okX X) (hC : b_Cx X k R p s m args meth c) (hRt : b_Rt X k R Q K p e s m args below meth c) {AT J : Nat → bN} {cuts : List (Nat × List Nat)}
    (hA : ∀ t cs ss ws al st, AT t cs ss ws al st → b_At X k R Q p e s m args below meth c t cs ss ws al st)
    (hJ : ∀ t cs ss ws al st, J t cs ss ws al st → b_At X k R Q p e s m args below meth c t cs ss ws al st) :
    ∀ (l : List aI) (pc cs ss : Nat) (ws : va_W) (al : aV) (st : List Value), b_oks k l pc = true → b_run X k K AT cuts J l pc cs ss ws al st → b_At X k R Q p e s m args below meth c pc cs ss ws al st := by
  intro l
  induction l with
  | nil => intro pc cs ss ws al st _ h; exact h.elim
  | cons x r ih =>
    intro pc cs ss ws al st hok h
    obtain ⟨i, len, ⟨a1, a2, a3⟩, cv, cal⟩ := x
    simp only [b_oks, Bool.and_eq_true] at hok
    refine b_one_ok hX hC hRt hJ (fun cs ss ws al st h1 => ?_) hok.1 h
    split at h1
    · intro g1 g2 H locs ls hP hD hS hlv
      exact hA _ _ _ _ _ _ h1 g1 g2 H locs ls hP hD hS (b_keep_has hlv)
    · exact ih _ _ _ _ _ _ hok.2 h1
theorem b_oks_suf {k : aM} : ∀ {l : List aI} {p t : Nat}, b_oks k l p = true → a_suf l p t ≠ [] → b_oks k (a_suf l p t) t = true := by
  intro l
  induction l with
  | nil => intro p t _ h; exact absurd rfl h
  | cons x r ih =>
    intro p t h hne
    obtain ⟨i, len, a, cv, cal⟩ := x
    unfold a_suf at hne ⊢
    cases hb : Nat.beq p t with
    | true =>
      rw [hb] at hne
      have e : p = t := Nat.eq_of_beq_eq_true hb
      subst e
      exact h
    | false =>
      rw [hb] at hne
      simp only [b_oks, Bool.and_eq_true] at h
      exact ih h.2 hne
theorem b_jmp_ok (hX : b_okX X) (hC : b_Cx X k R p s m args meth c) (hRt : b_Rt X k R Q K p e s m args below meth c) {code : List aI} (hok : b_oks k code 0 = true) {AT : Nat → bN}
    (hA : ∀ t cs ss ws al st, AT t cs ss ws al st → b_At X k R Q p e s m args below meth c t cs ss ws al st) (cuts : List (Nat × List Nat)) :
    ∀ (n t cs ss : Nat) (ws : va_W) (al : aV) (st : List Value), b_jmp X k K code AT cuts n t cs ss ws al st → b_At X k R Q p e s m args below meth c t cs ss ws al st := by
  intro n
  induction n with
  | zero => intro t cs ss ws al st h; exact hA _ _ _ _ _ _ h
  | succ n ih =>
    intro t cs ss ws al st h
    unfold b_jmp at h
    split at h
    · intro h1 h2 H locs ls hP hD hS hlv
      exact hA _ _ _ _ _ _ h h1 h2 H locs ls hP hD hS (b_keep_has hlv)
    · by_cases hne : a_suf code 0 t = []
      · rw [hne] at h
        exact h.elim
      · exact b_run_ok hX hC hRt hA ih _ _ _ _ _ _ _ (b_oks_suf hok hne) h
end Bs
/-- what an answer of that type is -/
def b_rt (ret : Option FieldType) (r : Option Value) : Prop := match ret, r with
  | some .int, some (.int _) => True
  | some .boolean, some (.int v) => v = 0 ∨ v = 1
  | some .char, some (.int v) => narrow .char (.int v) = .int v
  | some .byte, some (.int v) => narrow .byte (.int v) = .int v
  | some (.object _), some (.ref _) => True
  | some (.array _), some (.ref _) => True
  | none, none => True
  | _, _ => False
theorem b_Meets.of {X : aX} {k : aM} {K : va_W → Option Value → Prop} {ws : va_W} {av : List Value} (hX : b_okX X) {code : List aI} (hok : b_good k code = true)
    {al0 : aV} (hal : lv_args 0 av = al0) (hlen : Nat.ble (lg_sl av).length k.2.2.1 = true)
    (body : ∀ AT : Nat → bN,
      (∀ (cuts : List (Nat × List Nat)) (n : Nat) {t cs ss : Nat} {ws : va_W} {al : aV} {st : List Value}, b_run X k (fun ws r => K ws r ∧ b_rt k.2.2.2.1 r) AT cuts (b_jmp X k (fun ws r => K ws r ∧ b_rt k.2.2.2.1 r) code AT cuts n) (a_suf code 0 t) t cs ss ws al st → AT t cs ss ws al st) →
      AT 0 0 0 ws al0 []) : b_Meets X k ws av K := by
  simp only [b_good, Bool.and_eq_true] at hok
  refine Met.ofW (cc := k.2.1) (maxL := k.2.2.1) (ret := k.2.2.2.1) hok.2 rfl ?_
  intro p e s m args below meth c s₁ B hml hv
  obtain ⟨rfl, hN0, hK, hE, hP, hD⟩ := hv
  have hts0 := atoms_spec (ws := a_wsM k) B.pre
  have hC : b_Cx X k (a_rm k) p s m av.toArray meth c := ⟨B.exec, B.bytes, hml, findClass_of_methodNamed B.named, fun w hw => hts0 w (a_g_in hw), hN0, hK, hE, (name_of_methodNamed B.named B.method).1, Nat.le_refl _, Nat.le_refl _, Nat.le_refl _, Nat.le_refl _⟩
  have hRt : b_Rt X k (a_rm k) (MQ below (b_Qc X K) av.toArray s k.2.2.2.2.2.1 k.2.2.2.2.2.2 (a_A X)) (fun ws r => K ws r ∧ b_rt k.2.2.2.1 r) p e s m av.toArray below meth c := by
    intro pc cs ss ws ls st r H locs i hd hst hKr hcs hss hP hD hS
    refine W.widen (k := k.2.2.2.2.2.1) (n := k.2.2.2.2.2.2) hcs hss ?_
    obtain ⟨hKr, hbt⟩ := hKr
    have hq : ∀ t : State, t.heap = H → s.WarmedH t.vm → b_Qc X K av.toArray s (.returned r) t := fun t ht hw => ⟨⟨ws, r, rfl, hKr, by rw [ht]; exact hP, hD⟩, hS.F ht⟩
    rcases hst with ⟨v, rfl, rfl, rfl⟩ | ⟨v, rfl, rfl, rfl⟩ | ⟨rfl, rfl, rfl⟩
    · unfold b_rt at hbt
      split at hbt
      · rename_i hrt hv0
        cases hv0
        exact W.iret (v := v) B.exec B.bytes (B.returns.trans hrt) hq hS.2.2 hd B.notSynchronized
      · rename_i v0 hrt hv0
        cases hv0
        exact W.zret (v := v) B.exec B.bytes (B.returns.trans hrt) (by rcases hbt with rfl | rfl <;> rfl) hq hS.2.2 hd B.notSynchronized
      · rename_i v0 hrt hv0
        cases hv0
        exact W.zret (v := v) B.exec B.bytes (B.returns.trans hrt) hbt hq hS.2.2 hd B.notSynchronized
      · rename_i v0 hrt hv0
        cases hv0
        exact W.zret (v := v) B.exec B.bytes (B.returns.trans hrt) hbt hq hS.2.2 hd B.notSynchronized
      · rename_i h1 h2; cases h2
      · rename_i h1 h2; cases h2
      · rename_i h1 h2; cases h2
      · exact hbt.elim
    · unfold b_rt at hbt
      split at hbt
      · rename_i h1 h2; cases h2
      · rename_i h1 h2; cases h2
      · rename_i h1 h2; cases h2
      · rename_i h1 h2; cases h2
      · rename_i n0 v0 hrt hv0
        cases hv0
        exact W.aret (v := .ref v) B.exec B.bytes (B.returns.trans hrt) (Or.inl ⟨_, rfl⟩) (Or.inr ⟨_, rfl⟩) hq hS.2.2 hd B.notSynchronized
      · rename_i n0 v0 hrt hv0
        cases hv0
        exact W.aret (v := .ref v) B.exec B.bytes (B.returns.trans hrt) (Or.inr ⟨_, rfl⟩) (Or.inr ⟨_, rfl⟩) hq hS.2.2 hd B.notSynchronized
      · rename_i h1 h2; cases h2
      · exact hbt.elim
    · unfold b_rt at hbt
      split at hbt
      · rename_i h1 h2; cases h2
      · rename_i h1 h2; cases h2
      · rename_i h1 h2; cases h2
      · rename_i h1 h2; cases h2
      · rename_i h1 h2; cases h2
      · rename_i h1 h2; cases h2
      · rename_i hrt hv0
        exact W.vret B.exec B.bytes (B.returns.trans hrt) hq hS.2.2 hd B.notSynchronized
      · exact hbt.elim
  have hl := lv_entry av (n := k.2.2.1) (Nat.le_of_ble_eq_true hlen)
  rw [lg_entry_eq]
  generalize (lg_sl av ++ List.replicate (k.2.2.1 - (lg_sl av).length) Slot.unset).toArray = ls at hl ⊢
  rw [hal] at hl
  have key := body (b_At X k (a_rm k) (MQ below (b_Qc X K) av.toArray s k.2.2.2.2.2.1 k.2.2.2.2.2.2 (a_A X)) p e s m av.toArray below meth c) (fun cuts n {t cs ss ws al st} h => by
    by_cases hne : a_suf code 0 t = []
    · rw [hne] at h
      exact h.elim
    · exact b_run_ok hX hC hRt (fun _ _ _ _ _ _ h => h) (b_jmp_ok hX hC hRt hok.1 (fun _ _ _ _ _ _ h => h) cuts n) _ _ _ _ _ _ _ (b_oks_suf hok.1 hne) h)
  exact key (Nat.zero_le _) (Nat.zero_le _) s.heap [] ls hP hD va_S.rf hl
