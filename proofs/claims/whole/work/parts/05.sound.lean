/-! The machine does what the abstract machine says -/
def a_okX (X : aX) : Prop :=
  (∀ s U : State, s.WarmedH U.vm → s.heap.size ≤ U.heap.size → (∀ q : Nat, q < s.heap.size → ¬ a_A X q → U.heap[q]? = s.heap[q]?) → X.2.2.2.2.1 s s.heap → X.2.2.2.2.1 U U.heap) ∧
  (∀ s : State, X.2.2.2.2.1 s s.heap → ∀ w ∈ lw_tbl, a_isN w = true → va_Nw w s) ∧
  (∀ (ad : Nat → Nat) (z : aZ) (Z : va_W) (j : Nat), j < z.length → X.2.2.2.2.2 ad z Z → ∃ (q0 : Nat) (fs : List Value), Z[q0]? = some (ad (2000000 + j), .inr (2, fs))) ∧
  (∀ (ad : Nat → Nat) (z : aZ) (Z : va_W) (s : State) (j : Nat), X.2.2.2.2.2 ad z Z → X.2.2.2.2.1 s s.heap → j < 10 → ∃ cell : Cell, s.heap[ad (1000000 + j)]? = some cell ∧ cell.vm.isStatics = false ∧ s.vm.findClass "java/lang/String" = some cell.cls ∧ ¬ a_A X (ad (1000000 + j))) ∧
  (∀ (ad : Nat → Nat) (z : aZ) (Z : va_W) (s : State) (j : Nat), X.2.2.2.2.2 ad z Z → X.2.2.2.2.1 s s.heap → j < 10 → ∃ tx : String, vk_R "FilingOrder" (a_sx j) tx (ad (1000000 + j)) s)
def a_Cx (X : aX) (k : aM) (p : Program) (s : State) (m : MethodId) (args : Array Value) (meth : Method) (c : Code) : Prop :=
  p.tables.exec = Jvm.exec ∧ c.code = k.2.1 ∧ meth.sig.returnType = k.2.2.2.1 ∧ c.maxLocals = k.2.2.1 ∧ s.vm.findClass k.1.cls = some m.cls ∧ (∀ w ∈ a_wsM k, w.before args s = true) ∧ meth.locks = false ∧ X.2.2.2.1 ≤ s.heap.size ∧ va_K X.2.1 vwCl (a_tys X.2.2.1) s ∧ X.2.2.2.2.1 s s.heap
def a_At (X : aX) (ad : Nat → Nat) (L : List aC) (k : aM) (K : aS → aZ → Option Value → Prop) (p : Program) (e : Env) (s : State) (m : MethodId) (args : Array Value) (below : List Frame) (meth : Method) (c : Code) (pc cs ss : Nat) (σ : aS) (z : aZ) (al : aV) (st : List Value) : Prop :=
  cs ≤ k.2.2.2.2.2.1 → ss ≤ k.2.2.2.2.2.2 → ∀ (H : Heap) (locs : List Loc) (ls : Array Slot), a_Wd X ad L σ z H → va_S (a_A X) s.heap H locs → lv_has ls k.2.2.1 (al.map (a_cl ad)) →
    W p X.1 e (a_rm k) s m args below meth c H locs cs ss (MQ below (a_Qc X ad L K) args s k.2.2.2.2.2.1 k.2.2.2.2.2.2 (a_A X)) (F0 m pc ls (st.map (a_cv ad)))
theorem vp_in_nI' {m n : Nat} (h : m < n) (h2 : m < 2147483648) : vp_in (nI m) n := by
  rintro (q | q)
  · exact nI_pos h2 q
  · rw [nI_clamp h2] at q
    omega
theorem a_sw_at {J : Nat → Prop} {pc : Nat} {v : Int32} : ∀ {l : List Int} {a : Int} {n : Nat} {o : Int}, a_sw J pc v a l → l[n]? = some o → v.toInt = a + n → -2000 ≤ a → a + n ≤ 2000 → J ((pc : Int) + o).toNat := by
  intro l
  induction l with
  | nil => intro a n o _ h; simp at h
  | cons x r ih =>
    intro a n o h hn hv h1 h2
    cases n with
    | zero =>
      simp at hn
      subst hn
      refine h.1 ?_
      apply Int32.toInt_inj.mp
      rw [hv, Int32.toInt_ofInt_of_le (by simp; omega) (by simp; omega)]
      simp
    | succ n =>
      exact ih (a := a + 1) (n := n) h.2 (by simpa using hn) (by omega) (by omega) (by omega)
section AL
variable {p : Program} {l : Launch} {e : Env} {R : Room} {s : State} {m : MethodId} {args : Array Value} {below : List Frame} {meth : Method} {c : Code} {H : Heap} {locs : List Loc} {cells slots : Nat} {Q : State → Prop}
variable {cc : ByteArray} {pc : Nat} {ls : Array Slot} {rest : List Value} {D : va_G} {cl : List vw_C} {a : Nat} {cA : Nat → ClassId} {ws : va_W}
theorem va_alenT (hexec : p.tables.exec = Jvm.exec) (hb : c.code = cc) (hK : va_K D cl (a_tys cA) s) (hP : va_P D cl ws H) {q0 t n : Nat} {f : Nat → Int32} (ha : ws[q0]? = some (a, .inl (cA t, n, .inl f))) (ht : decide (t < 5) = true) (hdg : decode cc pc = .ok (.arraylength, 1))
    (kk : W p l e R s m args below meth c H locs cells slots Q (F0 m (pc + 1) ls (.int (nI n) :: rest))) : W p l e R s m args below meth c H locs cells slots Q (F0 m pc ls (.ref a :: rest)) := by
  have ht := of_decide_eq_true ht
  match t, ht with
  | 0, _ => exact va_alen hexec hb hK hP q0 0 ha (ty := .byte) rfl rfl hdg kk
  | 1, _ => exact va_alen hexec hb hK hP q0 1 ha (ty := .char) rfl rfl hdg kk
  | 2, _ => exact va_alen hexec hb hK hP q0 2 ha (ty := .int) rfl rfl hdg kk
  | 3, _ => exact va_alen hexec hb hK hP q0 3 ha (ty := .boolean) rfl rfl hdg kk
  | 4, _ => exact va_alen hexec hb hK hP q0 4 ha (ty := .object "java/lang/Object") rfl rfl hdg kk
end AL
section Snd
variable {X : aX} {ad : Nat → Nat} {L : List aC} {k : aM} {K : aS → aZ → Option Value → Prop} {p : Program} {e : Env} {s : State} {m : MethodId} {args : Array Value} {below : List Frame} {meth : Method} {c : Code}
theorem a_blind (hX : a_okX X) {av : List Value} {σ : aS} {z : aZ} : FrameBlind (va_Pc (av.map (a_cv ad)) (a_Pr X ad L σ z)) := by
  intro a U g mk h
  obtain ⟨h1, h2, h3, h4, h5⟩ := h
  exact ⟨h1, h2, va_K.moved (u := U) (U := U.calling g mk a) (Vm.Alike.refl U.vm) h3, hX.1 U (U.calling g mk a) (State.WarmedH.refl U) (Nat.le_refl _) (fun _ _ _ => rfl) h4, h5⟩
theorem a_pre (hX : a_okX X) (hC : a_Cx X k p s m args meth c) {σ : aS} {z : aZ} {H : Heap} {locs : List Loc} (hW : a_Wd X ad L σ z H) (hS : va_S (a_A X) s.heap H locs) (U : State) (hU : U.heap = H) (hw : s.WarmedH U.vm) : a_Pr X ad L σ z U := by
  obtain ⟨-, -, -, -, -, -, -, hN, hK, hE⟩ := hC
  refine ⟨by rw [hU]; exact Nat.le_trans hN hS.1, va_K.moved hw.alike hK, hX.1 s U hw (by rw [hU]; exact hS.1) (fun q h1 h2 => by rw [hU]; exact hS.2.1 q h1 h2) hE, by rw [hU]; exact hW⟩
theorem a_go {l : Launch} {R : Room} {Q : State → Prop} {H : Heap} {locs : List Loc} {cs ss mc ms pc : Nat} {ls : Array Slot} {st0 rest : List Value} {K' : aS → aZ → Option Value → Prop} {av : Array Value}
    (hr : va_Run p l e R s m args below meth c H locs cs ss mc ms (F0 m pc ls st0) rest (a_Qc X ad L K' av) (a_A X)) (hS : va_S (a_A X) s.heap H locs)
    (kk : ∀ (σ : aS) (z : aZ) (r : Option Value) (H1 : Heap) (locs1 : List Loc), K' σ z r → a_Wd X ad L σ z H1 → va_S (a_A X) s.heap H1 locs1 → W p l e R s m args below meth c H1 locs1 (cs + mc) (ss + ms) Q (F0 m (pc + 3) ls ((r.map (a_cv ad)).toList ++ rest))) :
    W p l e R s m args below meth c H locs cs ss Q (F0 m pc ls st0) := by
  intro T hT XX
  obtain ⟨v, st₀, t, T', Lc, h0, X', hL, e1, e2, ⟨⟨σ', z', r, hv, hK, hW⟩, hz, hk⟩, st⟩ := hr T hT XX
  cases hv
  rw [h0] at hz hk
  obtain ⟨t2, a1, b1⟩ := kk σ' z' r T'.heap (locs ++ Lc) hK (by rw [e1]; exact hW)
    ⟨Nat.le_trans hS.1 (by rw [e1]; exact hz), fun q h1 h2 => by rw [e1, hk q (Nat.lt_of_lt_of_le h1 hS.1) h2]; exact hS.2.1 q h1 h2, fun q hq => by
      rcases List.mem_append.mp hq with h | h
      · exact hS.2.2 q h
      · exact hL q h⟩ T' rfl X'
  exact ⟨t2, st t2 a1, b1⟩
theorem a_map_ps (r : Option Value) (st : List Value) : (r.map (a_cv ad)).toList ++ st.map (a_cv ad) = (a_ps r st).map (a_cv ad) := by
  cases r <;> rfl
theorem a_map_cat (st : List Value) : ((st.map (a_cv ad)).map fun v => v.category).sum = (st.map fun v => v.category).sum := by
  rw [List.map_map]
  congr 1
  apply List.map_congr_left
  intro v _
  exact a_cv_cat ad v
theorem a_fv_rd (σ : aS) (i j : Nat) (v : Value) : a_cv ad (a_rd σ i j v) = a_fv ad (σ i) j v := by cases v <;> rfl
theorem a_dep {q : aM} {n : Nat} (h : a_mok k q n = true) : Cond.code q.1 q.2.1 q.2.2.1 q.2.2.2.1 ∈ lw_g ∧ ((a_rm q).frames + 1 ≤ (a_rm k).frames ∧ 8 + (q.2.2.1 + 11) + (a_rm q).locals ≤ (a_rm k).locals) ∧
    (q.1.cls ≠ "java/lang/invoke/MethodHandle" ∧ q.1.cls ≠ "java/lang/invoke/VarHandle" ∧ (parseMethodDescriptor q.1.desc).map (fun d => d.parameters.length) = some n) := by
  simp only [a_mok, Bool.and_eq_true, decide_eq_true_eq] at h
  obtain ⟨h1, h2, h3, h4⟩ := h
  have h2 := Nat.le_of_ble_eq_true h2
  have h3 := Nat.le_of_ble_eq_true h3
  exact ⟨a_w_in h1, ⟨h2, by simp only [a_rm]; omega⟩, h4⟩
/-- a call of a method that is met -/
theorem a_goM {H : Heap} {locs : List Loc} {cs ss pc : Nat} {ls : Array Slot} {st0 rest as : List Value} {q : aM} {N : Nat → Nat → aS → aZ → aV → List Value → Prop} {al : aV}
    (hS : va_S (a_A X) s.heap H locs) (hlv : lv_has ls k.2.2.1 (al.map (a_cl ad)))
    (hN : ∀ cs ss σ z al st, N cs ss σ z al st → a_At X ad L k K p e s m args below meth c (pc + 3) cs ss σ z al st)
    (hb1 : cs + q.2.2.2.2.2.1 ≤ k.2.2.2.2.2.1) (hb2 : ss + q.2.2.2.2.2.2 ≤ k.2.2.2.2.2.2)
    (hr : va_Run p X.1 e (a_rm k) s m args below meth c H locs cs ss q.2.2.2.2.2.1 q.2.2.2.2.2.2 (F0 m pc ls st0) (rest.map (a_cv ad)) (a_Qc X ad L (fun σ' z' r => N (cs + q.2.2.2.2.2.1) (ss + q.2.2.2.2.2.2) σ' z' al (a_ps r rest)) (as.map (a_cv ad)).toArray) (a_A X)) :
    W p X.1 e (a_rm k) s m args below meth c H locs cs ss (MQ below (a_Qc X ad L K) args s k.2.2.2.2.2.1 k.2.2.2.2.2.2 (a_A X)) (F0 m pc ls st0) := by
  refine a_go hr hS (fun σ z r H1 locs1 h1 h2 h3 => ?_)
  rw [a_map_ps]
  exact hN _ _ _ _ _ _ h1 hb1 hb2 H1 locs1 ls h2 h3 hlv
theorem a_one_ok (hX : a_okX X) (hC : a_Cx X k p s m args meth c) {J : Nat → Nat → Nat → aS → aZ → aV → List Value → Prop} {N : Nat → Nat → aS → aZ → aV → List Value → Prop} {i : Instr} {len a1 a2 a3 : Nat} {cv : Int32} {q : Option aM} {pc : Nat}
    (hJ : ∀ t cs ss σ z al st, J t cs ss σ z al st → a_At X ad L k K p e s m args below meth c t cs ss σ z al st)
    (hN : ∀ cs ss σ z al st, N cs ss σ z al st → a_At X ad L k K p e s m args below meth c (pc + len) cs ss σ z al st)
    (hok : a_ok k pc (i, len, (a1, a2, a3), cv, q) = true) {cs ss : Nat} {σ : aS} {z : aZ} {al : aV} {st : List Value} (h : a_one X ad L k K J N i a1 a2 a3 cv q pc cs ss σ z al st) :
    a_At X ad L k K p e s m args below meth c pc cs ss σ z al st := by
  have hC0 := hC
  obtain ⟨hx, hb, hr, hml, hown, hts, hlocks, hN0, hK, hE⟩ := hC
  intro hcs hss H locs ls hW hS hlv
  cases i
  case iconst n =>
    simp only [a_ok, Bool.and_eq_true, decide_eq_true_eq, beq_iff_eq] at hok
    obtain ⟨hd, hv, rfl⟩ := hok
    exact lv_iconst hx hb hd hv (hN _ _ _ _ _ _ h hcs hss H locs ls hW hS hlv)
  case bipush n =>
    simp only [a_ok, Bool.and_eq_true, decide_eq_true_eq, beq_iff_eq] at hok
    obtain ⟨hd, hv, rfl⟩ := hok
    exact lv_bipush hx hb hd hv (hN _ _ _ _ _ _ h hcs hss H locs ls hW hS hlv)
  case sipush n =>
    simp only [a_ok, Bool.and_eq_true, decide_eq_true_eq, beq_iff_eq] at hok
    obtain ⟨hd, hv, rfl⟩ := hok
    exact lv_sipush hx hb hd hv (hN _ _ _ _ _ _ h hcs hss H locs ls hW hS hlv)
  case lconst n =>
    simp only [a_ok, Bool.and_eq_true, decide_eq_true_eq, beq_iff_eq] at hok
    obtain ⟨hd, rfl⟩ := hok
    exact lv_lconst hx hb hd rfl (hN _ _ _ _ _ _ h hcs hss H locs ls hW hS hlv)
  case iload_n j =>
    simp only [a_ok, Bool.and_eq_true, decide_eq_true_eq, beq_iff_eq] at hok
    obtain ⟨hd, hj, rfl⟩ := hok
    obtain ⟨v, h1, h2⟩ := a_vi_inv h
    exact lv_iload_n hx hb hd hj (a_ld_has hlv h1) (hN _ _ _ _ _ _ h2 hcs hss H locs ls hW hS hlv)
  case iload j =>
    simp only [a_ok, Bool.and_eq_true, decide_eq_true_eq, beq_iff_eq] at hok
    obtain ⟨hd, rfl, rfl⟩ := hok
    obtain ⟨v, h1, h2⟩ := a_vi_inv h
    exact lv_iload hx hb hd (a_ld_has hlv h1) (hN _ _ _ _ _ _ h2 hcs hss H locs ls hW hS hlv)
  case aload_n j =>
    simp only [a_ok, Bool.and_eq_true, decide_eq_true_eq, beq_iff_eq] at hok
    obtain ⟨hd, hj, rfl⟩ := hok
    obtain ⟨v, h1, h2⟩ := a_vr_inv h
    exact lv_aload_n hx hb hd hj (a_ld_has hlv h1) (hN _ _ _ _ _ _ h2 hcs hss H locs ls hW hS hlv)
  case aload j =>
    simp only [a_ok, Bool.and_eq_true, decide_eq_true_eq, beq_iff_eq] at hok
    obtain ⟨hd, rfl, rfl⟩ := hok
    obtain ⟨v, h1, h2⟩ := a_vr_inv h
    exact lv_aload hx hb hd (a_ld_has hlv h1) (hN _ _ _ _ _ _ h2 hcs hss H locs ls hW hS hlv)
  case lload j =>
    simp only [a_ok, Bool.and_eq_true, decide_eq_true_eq, beq_iff_eq] at hok
    obtain ⟨hd, rfl, rfl⟩ := hok
    obtain ⟨v, h1, h2⟩ := a_vl_inv h
    exact lv_lload hx hb hd (a_ld_has hlv h1) (hN _ _ _ _ _ _ h2 hcs hss H locs ls hW hS hlv)
  case istore_n j =>
    simp only [a_ok, Bool.and_eq_true, decide_eq_true_eq, beq_iff_eq] at hok
    obtain ⟨hd, hj, rfl, hn⟩ := hok
    obtain ⟨v, r, rfl, h1⟩ := a_i1_inv h
    obtain ⟨h2, h3⟩ := a_if_inv h1
    exact lv_istore_n hx hb hd hj hlv (Nat.le_of_ble_eq_true hn) rfl (fun ls' hl' => hN _ _ _ _ _ _ h3 hcs hss H locs ls' hW hS (a_sto_has (v := .int v) h2 hl'))
  case istore j =>
    simp only [a_ok, Bool.and_eq_true, decide_eq_true_eq, beq_iff_eq] at hok
    obtain ⟨hd, rfl, rfl, hn⟩ := hok
    obtain ⟨v, r, rfl, h1⟩ := a_i1_inv h
    obtain ⟨h2, h3⟩ := a_if_inv h1
    exact lv_istore hx hb hd hlv (Nat.le_of_ble_eq_true hn) rfl (fun ls' hl' => hN _ _ _ _ _ _ h3 hcs hss H locs ls' hW hS (a_sto_has (v := .int v) h2 hl'))
  case astore_n j =>
    simp only [a_ok, Bool.and_eq_true, decide_eq_true_eq, beq_iff_eq] at hok
    obtain ⟨hd, hj, rfl, hn⟩ := hok
    obtain ⟨v, r, rfl, h1⟩ := a_r1_inv h
    obtain ⟨h2, h3⟩ := a_if_inv h1
    exact lv_astore_n hx hb hd hj hlv (Nat.le_of_ble_eq_true hn) rfl (fun ls' hl' => hN _ _ _ _ _ _ h3 hcs hss H locs ls' hW hS (a_sto_has (v := .ref v) h2 hl'))
  case astore j =>
    simp only [a_ok, Bool.and_eq_true, decide_eq_true_eq, beq_iff_eq] at hok
    obtain ⟨hd, rfl, rfl, hn⟩ := hok
    obtain ⟨v, r, rfl, h1⟩ := a_r1_inv h
    obtain ⟨h2, h3⟩ := a_if_inv h1
    exact lv_astore hx hb hd hlv (Nat.le_of_ble_eq_true hn) rfl (fun ls' hl' => hN _ _ _ _ _ _ h3 hcs hss H locs ls' hW hS (a_sto_has (v := .ref v) h2 hl'))
  case lstore j =>
    simp only [a_ok, Bool.and_eq_true, decide_eq_true_eq, beq_iff_eq] at hok
    obtain ⟨hd, rfl, rfl, hn⟩ := hok
    obtain ⟨v, r, rfl, h1⟩ := a_l1_inv h
    obtain ⟨h2, h3⟩ := a_if_inv h1
    exact lv_lstore hx hb hd hlv (Nat.le_of_ble_eq_true hn) rfl (fun ls' hl' => hN _ _ _ _ _ _ h3 hcs hss H locs ls' hW hS (a_sto_has2 (v := .long v) h2 hl'))
  case iinc j n =>
    simp only [a_ok, Bool.and_eq_true, decide_eq_true_eq, beq_iff_eq] at hok
    obtain ⟨hd, rfl, rfl, hn, hc⟩ := hok
    obtain ⟨v, h1, h2⟩ := a_vi_inv h
    obtain ⟨h3, h4⟩ := a_if_inv h2
    obtain ⟨kk, hkk⟩ := List.getElem?_of_mem (List.mem_map.mpr ⟨_, a_ld_mem h1, rfl⟩ : a_cl ad (j, .int v) ∈ al.map (a_cl ad))
    exact lv_iinc hx hb hd hlv hkk (by rw [hc]) (Nat.le_of_ble_eq_true hn) rfl (fun ls' hl' => hN _ _ _ _ _ _ h4 hcs hss H locs ls' hW hS (a_sto_has (v := .int (v + cv)) h3 hl'))
  case iadd =>
    simp only [a_ok, Bool.and_eq_true, decide_eq_true_eq, beq_iff_eq] at hok
    obtain ⟨hd, rfl⟩ := hok
    obtain ⟨a, b, r, rfl, h1⟩ := a_i2_inv h
    exact lv_iadd hx hb hd (hN _ _ _ _ _ _ h1 hcs hss H locs ls hW hS hlv)
  case isub =>
    simp only [a_ok, Bool.and_eq_true, decide_eq_true_eq, beq_iff_eq] at hok
    obtain ⟨hd, rfl⟩ := hok
    obtain ⟨a, b, r, rfl, h1⟩ := a_i2_inv h
    exact lv_isub hx hb hd (hN _ _ _ _ _ _ h1 hcs hss H locs ls hW hS hlv)
  case imul =>
    simp only [a_ok, Bool.and_eq_true, decide_eq_true_eq, beq_iff_eq] at hok
    obtain ⟨hd, rfl⟩ := hok
    obtain ⟨a, b, r, rfl, h1⟩ := a_i2_inv h
    exact lv_imul hx hb hd (hN _ _ _ _ _ _ h1 hcs hss H locs ls hW hS hlv)
  case iand =>
    simp only [a_ok, Bool.and_eq_true, decide_eq_true_eq, beq_iff_eq] at hok
    obtain ⟨hd, rfl⟩ := hok
    obtain ⟨a, b, r, rfl, h1⟩ := a_i2_inv h
    exact lv_iand hx hb hd (hN _ _ _ _ _ _ h1 hcs hss H locs ls hW hS hlv)
  case idiv =>
    simp only [a_ok, Bool.and_eq_true, decide_eq_true_eq, beq_iff_eq] at hok
    obtain ⟨hd, rfl⟩ := hok
    obtain ⟨a, b, r, rfl, h0, h1⟩ := a_i2_inv h
    exact lv_idiv hx hb hd h0 (hN _ _ _ _ _ _ h1 hcs hss H locs ls hW hS hlv)
  case irem =>
    simp only [a_ok, Bool.and_eq_true, decide_eq_true_eq, beq_iff_eq] at hok
    obtain ⟨hd, rfl⟩ := hok
    obtain ⟨a, b, r, rfl, h0, h1⟩ := a_i2_inv h
    exact lv_irem hx hb hd h0 (hN _ _ _ _ _ _ h1 hcs hss H locs ls hW hS hlv)
  case i2b =>
    simp only [a_ok, Bool.and_eq_true, decide_eq_true_eq, beq_iff_eq] at hok
    obtain ⟨hd, rfl⟩ := hok
    obtain ⟨a, r, rfl, h1⟩ := a_i1_inv h
    exact lv_i2b hx hb hd rfl (hN _ _ _ _ _ _ h1 hcs hss H locs ls hW hS hlv)
  case i2c =>
    simp only [a_ok, Bool.and_eq_true, decide_eq_true_eq, beq_iff_eq] at hok
    obtain ⟨hd, rfl⟩ := hok
    obtain ⟨a, r, rfl, h1⟩ := a_i1_inv h
    exact lv_i2c hx hb hd rfl (hN _ _ _ _ _ _ h1 hcs hss H locs ls hW hS hlv)
  case i2l =>
    simp only [a_ok, Bool.and_eq_true, decide_eq_true_eq, beq_iff_eq] at hok
    obtain ⟨hd, rfl⟩ := hok
    obtain ⟨a, r, rfl, h1⟩ := a_i1_inv h
    exact lv_i2l hx hb hd rfl (hN _ _ _ _ _ _ h1 hcs hss H locs ls hW hS hlv)
  case l2i =>
    simp only [a_ok, Bool.and_eq_true, decide_eq_true_eq, beq_iff_eq] at hok
    obtain ⟨hd, rfl⟩ := hok
    obtain ⟨a, r, rfl, h1⟩ := a_l1_inv h
    exact lv_l2i hx hb hd rfl (hN _ _ _ _ _ _ h1 hcs hss H locs ls hW hS hlv)
  case ladd =>
    simp only [a_ok, Bool.and_eq_true, decide_eq_true_eq, beq_iff_eq] at hok
    obtain ⟨hd, rfl⟩ := hok
    obtain ⟨a, b, r, rfl, h1⟩ := a_l2_inv h
    exact lv_ladd hx hb hd (hN _ _ _ _ _ _ h1 hcs hss H locs ls hW hS hlv)
  case lcmp =>
    simp only [a_ok, Bool.and_eq_true, decide_eq_true_eq, beq_iff_eq] at hok
    obtain ⟨hd, rfl⟩ := hok
    obtain ⟨a, b, r, rfl, h1⟩ := a_l2_inv h
    exact W.lcmp hx hb hd (hN _ _ _ _ _ _ h1 hcs hss H locs ls hW hS hlv)
  case dup =>
    simp only [a_ok, Bool.and_eq_true, decide_eq_true_eq, beq_iff_eq] at hok
    obtain ⟨hd, rfl⟩ := hok
    simp only [a_one] at h
    split at h
    · exact lv_dup hx hb hd rfl (hN _ _ _ _ _ _ h hcs hss H locs ls hW hS hlv)
    · exact lv_dup hx hb hd rfl (hN _ _ _ _ _ _ h hcs hss H locs ls hW hS hlv)
    · exact h.elim
  case pop =>
    simp only [a_ok, Bool.and_eq_true, decide_eq_true_eq, beq_iff_eq] at hok
    obtain ⟨hd, rfl⟩ := hok
    simp only [a_one] at h
    split at h
    · exact lv_pop hx hb hd rfl (hN _ _ _ _ _ _ h hcs hss H locs ls hW hS hlv)
    · exact lv_pop hx hb hd rfl (hN _ _ _ _ _ _ h hcs hss H locs ls hW hS hlv)
    · exact h.elim
  case ifCond cd off =>
    simp only [a_ok, Bool.and_eq_true, decide_eq_true_eq, beq_iff_eq] at hok
    obtain ⟨hd, ht, rfl⟩ := hok
    obtain ⟨a, r, rfl, h1⟩ := a_i1_inv h
    cases cd
    · exact lv_if_eq hx hb hd ht (fun g => hJ _ _ _ _ _ _ _ (h1.1 g) hcs hss H locs ls hW hS hlv) (fun g => hN _ _ _ _ _ _ (h1.2 g) hcs hss H locs ls hW hS hlv)
    · exact lv_if_ne hx hb hd ht (fun g => hJ _ _ _ _ _ _ _ (h1.1 g) hcs hss H locs ls hW hS hlv) (fun g => hN _ _ _ _ _ _ (h1.2 g) hcs hss H locs ls hW hS hlv)
    · exact lv_if_lt hx hb hd ht (fun g => hJ _ _ _ _ _ _ _ (h1.1 g) hcs hss H locs ls hW hS hlv) (fun g => hN _ _ _ _ _ _ (h1.2 g) hcs hss H locs ls hW hS hlv)
    · exact lv_if_ge hx hb hd ht (fun g => hJ _ _ _ _ _ _ _ (h1.1 g) hcs hss H locs ls hW hS hlv) (fun g => hN _ _ _ _ _ _ (h1.2 g) hcs hss H locs ls hW hS hlv)
    · exact lv_if_gt hx hb hd ht (fun g => hJ _ _ _ _ _ _ _ (h1.1 g) hcs hss H locs ls hW hS hlv) (fun g => hN _ _ _ _ _ _ (h1.2 g) hcs hss H locs ls hW hS hlv)
    · exact lv_if_le hx hb hd ht (fun g => hJ _ _ _ _ _ _ _ (h1.1 g) hcs hss H locs ls hW hS hlv) (fun g => hN _ _ _ _ _ _ (h1.2 g) hcs hss H locs ls hW hS hlv)
  case if_icmp cd off =>
    simp only [a_ok, Bool.and_eq_true, decide_eq_true_eq, beq_iff_eq] at hok
    obtain ⟨hd, ht, rfl⟩ := hok
    obtain ⟨a, b, r, rfl, h1⟩ := a_i2_inv h
    cases cd
    · exact lv_icmp_eq hx hb hd ht (fun g => hJ _ _ _ _ _ _ _ (h1.1 g) hcs hss H locs ls hW hS hlv) (fun g => hN _ _ _ _ _ _ (h1.2 g) hcs hss H locs ls hW hS hlv)
    · exact lv_icmp_ne hx hb hd ht (fun g => hJ _ _ _ _ _ _ _ (h1.1 g) hcs hss H locs ls hW hS hlv) (fun g => hN _ _ _ _ _ _ (h1.2 g) hcs hss H locs ls hW hS hlv)
    · exact lv_icmp_lt hx hb hd ht (fun g => hJ _ _ _ _ _ _ _ (h1.1 g) hcs hss H locs ls hW hS hlv) (fun g => hN _ _ _ _ _ _ (h1.2 g) hcs hss H locs ls hW hS hlv)
    · exact lv_icmp_ge hx hb hd ht (fun g => hJ _ _ _ _ _ _ _ (h1.1 g) hcs hss H locs ls hW hS hlv) (fun g => hN _ _ _ _ _ _ (h1.2 g) hcs hss H locs ls hW hS hlv)
    · exact lv_icmp_gt hx hb hd ht (fun g => hJ _ _ _ _ _ _ _ (h1.1 g) hcs hss H locs ls hW hS hlv) (fun g => hN _ _ _ _ _ _ (h1.2 g) hcs hss H locs ls hW hS hlv)
    · exact lv_icmp_le hx hb hd ht (fun g => hJ _ _ _ _ _ _ _ (h1.1 g) hcs hss H locs ls hW hS hlv) (fun g => hN _ _ _ _ _ _ (h1.2 g) hcs hss H locs ls hW hS hlv)
  case goto off =>
    simp only [a_ok, Bool.and_eq_true, decide_eq_true_eq, beq_iff_eq] at hok
    obtain ⟨hd, ht, rfl⟩ := hok
    exact lv_goto hx hb hd ht (hJ _ _ _ _ _ _ _ h hcs hss H locs ls hW hS hlv)
  case getfield ix =>
    simp only [a_ok, Bool.and_eq_true, decide_eq_true_eq, beq_iff_eq] at hok
    obtain ⟨hd, rfl, hok⟩ := hok
    obtain ⟨i, r, rfl, h1⟩ := a_r1_inv h
    obtain ⟨fs, h2, h3⟩ := a_ob_inv h1
    obtain ⟨v, h4, h5⟩ := a_fd_inv h3
    split at hok
    · rename_i q0 hq0
      obtain ⟨C, T, n⟩ := q0
      simp only [Bool.and_eq_true] at hok
      obtain ⟨hkN, hok⟩ := hok
      have hmem := List.mem_of_getElem? hq0
      obtain ⟨Z, hP, hD, hZ⟩ := hW
      have hG := hN _ _ _ _ _ _ h5 hcs hss H locs ls ⟨Z, hP, hD, hZ⟩ hS hlv
      have he := a_ws_at (ad := ad) (cA := X.2.2.1) (σ := σ) (Z := Z) h2
      have hv : (fs.mapIdx (fun k v => a_fv ad (σ i) k v))[a2]? = some (a_cv ad (a_rd σ i a2 v)) := by rw [List.getElem?_mapIdx, h4, a_fv_rd]; rfl
      split at hok
      · exact va_get hx hb hts (fun w hw => a_g_in (a_cls_in _ hmem w hw)) hown hK hP i he hq0 a2 (Nat.le_of_ble_eq_true hkN) (hts _ (a_g_in (a_w_in hok))) (fun _ g => g) hv hd hG
      · obtain ⟨n1, n2⟩ := a_nw_in hok
        exact va_getN hx hb hts (fun w hw => a_g_in (a_cls_in _ hmem w hw)) hown hK hP i he hq0 a2 (Nat.le_of_ble_eq_true hkN) (va_Nw.use rfl (hX.2.1 s hE _ n1 n2)) (fun _ g => g) hv hd hG
    · cases hok
  case putfield ix =>
    simp only [a_ok, Bool.and_eq_true, decide_eq_true_eq, beq_iff_eq] at hok
    obtain ⟨hd, rfl, hok⟩ := hok
    simp only [a_one] at h
    split at h
    · rename_i v i r
      obtain ⟨fs, h2, h3⟩ := a_ob_inv h
      obtain ⟨w, h4, h5⟩ := a_fd_inv h3
      split at hok
      · rename_i q0 hq0
        obtain ⟨C, T, n⟩ := q0
        simp only [Bool.and_eq_true, beq_iff_eq] at hok
        obtain ⟨hkN, hl, hfin, hty⟩ := hok
        have hkN := Nat.le_of_ble_eq_true hkN
        have hmem := List.mem_of_getElem? hq0
        split at h5
        · rename_i w0
          obtain ⟨Z, hP, hD, hZ⟩ := hW
          have he := a_ws_at (ad := ad) (cA := X.2.2.1) (σ := σ) (Z := Z) h2
          have hlen : a2 < (fs.mapIdx (fun k v => a_fv ad (σ i) k v)).length := by simpa using (List.getElem?_eq_some_iff.mp h4).1
          have main : narrow (a_ty (C, T, n) a2) (.int v) = .int v → fits (a_ty (C, T, n) a2) (.int v) = true → N cs ss (a_up σ i a2 v) z al r → W p X.1 e (a_rm k) s m args below meth c H locs cs ss (MQ below (a_Qc X ad L K) args s k.2.2.2.2.2.1 k.2.2.2.2.2.2 (a_A X)) (F0 m pc ls ((Value.int v :: .ref i :: r).map (a_cv ad))) := by
            intro hn hf hG
            refine va_put hx hb hts (fun w hw => a_g_in (a_cls_in _ hmem w hw)) (a_ty (C, T, n)) (a_cls_ty _ hmem) (a_cls_nm _ hmem) hown hK hP hD hS i he hq0 a2 hkN (hts _ (a_g_in (a_w_in hl))) (fun _ g => g) hfin (a_cls_ty _ hmem a2 hkN) hn hf hlen hd (fun H1 locs1 g1 g2 g3 => ?_)
            have e9 := a_ws_fput (ad := ad) (cA := X.2.2.1) (σ := σ) (Z := Z) (v := v) h2 h4
            exact hN _ _ _ _ _ _ hG hcs hss H1 locs1 ls ⟨Z, by rw [← e9]; exact g1, by rw [← e9]; exact g2, hZ⟩ g3 hlv
          split at hty
          · have hty := of_decide_eq_true hty
            exact main (by rw [hty]; rfl) (by rw [hty]; rfl) h5
          · rename_i hne
            have hty := of_decide_eq_true hty
            split at h5
            · exact absurd rfl hne
            · obtain ⟨h6, h7⟩ := h5
              rcases h6 with rfl | rfl
              · exact main (by rw [hty]; rfl) (by rw [hty]; rfl) h7
              · exact main (by rw [hty]; rfl) (by rw [hty]; rfl) h7
        · exact h5.elim
      · cases hok
    · exact h.elim
  case arraylength =>
    simp only [a_ok, Bool.and_eq_true, decide_eq_true_eq, beq_iff_eq] at hok
    obtain ⟨hd, rfl⟩ := hok
    obtain ⟨i, r, rfl, h1⟩ := a_r1_inv h
    obtain ⟨t, n, h2, h3⟩ := a_ar_inv h1
    obtain ⟨Z, hP, hD, hZ⟩ := hW
    have he := a_ws_at (ad := ad) (cA := X.2.2.1) (σ := σ) (Z := Z) h2
    obtain ⟨h4, h5⟩ := a_if_inv h3
    exact va_alenT hx hb hK hP he h4 hd (hN _ _ _ _ _ _ h5 hcs hss H locs ls ⟨Z, hP, hD, hZ⟩ hS hlv)
  case iaload =>
    simp only [a_ok, Bool.and_eq_true, decide_eq_true_eq, beq_iff_eq] at hok
    obtain ⟨hd, rfl⟩ := hok
    simp only [a_one] at h
    split at h
    · rename_i j i r
      obtain ⟨t, n, h2, h3⟩ := a_ar_inv h
      obtain ⟨h4, m9, ⟨h5, h6, rfl⟩, h7⟩ := a_if_inv h3
      have h4 : t = 2 := by simpa using h4
      subst h4
      obtain ⟨Z, hP, hD, hZ⟩ := hW
      have he := a_ws_at (ad := ad) (cA := X.2.2.1) (σ := σ) (Z := Z) h2
      refine va_iald hx hb hK hP i 2 he rfl (vp_in_nI' h5 h6) hd ?_
      rw [nI_clamp h6]
      exact hN _ _ _ _ _ _ h7 hcs hss H locs ls ⟨Z, hP, hD, hZ⟩ hS hlv
    · exact h.elim
  case caload =>
    simp only [a_ok, Bool.and_eq_true, decide_eq_true_eq, beq_iff_eq] at hok
    obtain ⟨hd, rfl⟩ := hok
    simp only [a_one] at h
    split at h
    · rename_i j i r
      obtain ⟨t, n, h2, h3⟩ := a_ar_inv h
      obtain ⟨h4, m9, ⟨h5, h6, rfl⟩, h7⟩ := a_if_inv h3
      have h4 : t = 1 := by simpa using h4
      subst h4
      obtain ⟨Z, hP, hD, hZ⟩ := hW
      have he := a_ws_at (ad := ad) (cA := X.2.2.1) (σ := σ) (Z := Z) h2
      refine va_cald hx hb hK hP i 1 he rfl (vp_in_nI' h5 h6) hd ?_
      rw [nI_clamp h6]
      exact hN _ _ _ _ _ _ h7 hcs hss H locs ls ⟨Z, hP, hD, hZ⟩ hS hlv
    · exact h.elim
  case baload =>
    simp only [a_ok, Bool.and_eq_true, decide_eq_true_eq, beq_iff_eq] at hok
    obtain ⟨hd, rfl⟩ := hok
    simp only [a_one] at h
    split at h
    · rename_i j i r
      obtain ⟨t, n, h2, h3⟩ := a_ar_inv h
      obtain ⟨h4, m9, ⟨h5, h6, rfl⟩, h7⟩ := a_if_inv h3
      have h4 : t = 0 ∨ t = 3 := by simpa using h4
      obtain ⟨Z, hP, hD, hZ⟩ := hW
      have he := a_ws_at (ad := ad) (cA := X.2.2.1) (σ := σ) (Z := Z) h2
      rcases h4 with rfl | rfl
      · refine va_bald hx hb hK hP i 0 he rfl (vp_in_nI' h5 h6) hd ?_
        rw [nI_clamp h6]
        exact hN _ _ _ _ _ _ h7 hcs hss H locs ls ⟨Z, hP, hD, hZ⟩ hS hlv
      · refine va_zald hx hb hK hP i 3 he rfl (vp_in_nI' h5 h6) hd ?_
        rw [nI_clamp h6]
        exact hN _ _ _ _ _ _ h7 hcs hss H locs ls ⟨Z, hP, hD, hZ⟩ hS hlv
    · exact h.elim
  case iastore =>
    simp only [a_ok, Bool.and_eq_true, decide_eq_true_eq, beq_iff_eq] at hok
    obtain ⟨hd, rfl⟩ := hok
    simp only [a_one] at h
    split at h
    · rename_i v j i r
      obtain ⟨t, n, h2, h3⟩ := a_ar_inv h
      obtain ⟨h4, m9, ⟨h5, h6, rfl⟩, h7⟩ := a_if_inv h3
      have h4 : t = 2 := by simpa using h4
      subst h4
      obtain ⟨Z, hP, hD, hZ⟩ := hW
      have he := a_ws_at (ad := ad) (cA := X.2.2.1) (σ := σ) (Z := Z) h2
      refine va_iast hx hb hK hP hD hS i 2 he rfl (vp_in_nI' h5 h6) hd (fun H1 locs1 g1 g2 g3 => ?_)
      rw [nI_clamp h6] at g1 g2
      have e9 := a_ws_aput (ad := ad) (cA := X.2.2.1) (σ := σ) (Z := Z) (k := m9) (v := v) h2
      exact hN _ _ _ _ _ _ h7 hcs hss H1 locs1 ls ⟨Z, by rw [← e9]; exact g1, by rw [← e9]; exact g2, hZ⟩ g3 hlv
    · exact h.elim
  case castore =>
    simp only [a_ok, Bool.and_eq_true, decide_eq_true_eq, beq_iff_eq] at hok
    obtain ⟨hd, rfl⟩ := hok
    simp only [a_one] at h
    split at h
    · rename_i v j i r
      obtain ⟨t, n, h2, h3⟩ := a_ar_inv h
      obtain ⟨h4, m9, ⟨h5, h6, rfl⟩, h7⟩ := a_if_inv h3
      have h4 : t = 1 := by simpa using h4
      subst h4
      obtain ⟨Z, hP, hD, hZ⟩ := hW
      have he := a_ws_at (ad := ad) (cA := X.2.2.1) (σ := σ) (Z := Z) h2
      refine va_cast hx hb hK hP hD hS i 1 he rfl (vp_in_nI' h5 h6) hd (fun H1 locs1 g1 g2 g3 => ?_)
      rw [nI_clamp h6] at g1 g2
      have e9 := a_ws_aput (ad := ad) (cA := X.2.2.1) (σ := σ) (Z := Z) (k := m9) (v := vp_nar .char v) h2
      exact hN _ _ _ _ _ _ h7 hcs hss H1 locs1 ls ⟨Z, by rw [← e9]; exact g1, by rw [← e9]; exact g2, hZ⟩ g3 hlv
    · exact h.elim
  case bastore =>
    simp only [a_ok, Bool.and_eq_true, decide_eq_true_eq, beq_iff_eq] at hok
    obtain ⟨hd, rfl⟩ := hok
    simp only [a_one] at h
    split at h
    · rename_i v j i r
      obtain ⟨t, n, h2, h3⟩ := a_ar_inv h
      obtain ⟨Z, hP, hD, hZ⟩ := hW
      split at h3
      · obtain ⟨m9, ⟨h5, h6, rfl⟩, h7⟩ := h3
        have he := a_ws_at (ad := ad) (cA := X.2.2.1) (σ := σ) (Z := Z) h2
        refine va_bast hx hb hK hP hD hS i 0 he rfl (vp_in_nI' h5 h6) hd (fun H1 locs1 g1 g2 g3 => ?_)
        rw [nI_clamp h6] at g1 g2
        have e9 := a_ws_aput (ad := ad) (cA := X.2.2.1) (σ := σ) (Z := Z) (k := m9) (v := vp_nar .byte v) h2
        exact hN _ _ _ _ _ _ h7 hcs hss H1 locs1 ls ⟨Z, by rw [← e9]; exact g1, by rw [← e9]; exact g2, hZ⟩ g3 hlv
      · obtain ⟨m9, ⟨h5, h6, rfl⟩, h7⟩ := h3
        have he := a_ws_at (ad := ad) (cA := X.2.2.1) (σ := σ) (Z := Z) h2
        refine va_zast hx hb hK hP hD hS i 3 he rfl (vp_in_nI' h5 h6) hd (fun H1 locs1 g1 g2 g3 => ?_)
        rw [nI_clamp h6] at g1 g2
        have e9 := a_ws_aput (ad := ad) (cA := X.2.2.1) (σ := σ) (Z := Z) (k := m9) (v := vp_nar .boolean v) h2
        exact hN _ _ _ _ _ _ h7 hcs hss H1 locs1 ls ⟨Z, by rw [← e9]; exact g1, by rw [← e9]; exact g2, hZ⟩ g3 hlv
      · exact h3.elim
    · exact h.elim
  case ldc ix =>
    simp only [a_ok, Bool.and_eq_true, decide_eq_true_eq, beq_iff_eq] at hok
    obtain ⟨hd, rfl, hcl, rfl, hlt⟩ := hok
    obtain ⟨Z, hP, hD, hZ⟩ := hW
    obtain ⟨tx, htx⟩ := hX.2.2.2.2 ad z Z s a1 hZ hE (Nat.le_of_ble_eq_true hlt)
    rw [hcl] at hown
    exact va_ldcS hx hb hown htx hd (hN _ _ _ _ _ _ h hcs hss H locs ls ⟨Z, hP, hD, hZ⟩ hS hlv)
  case checkcast ix =>
    simp only [a_ok, Bool.and_eq_true, decide_eq_true_eq, beq_iff_eq] at hok
    obtain ⟨hd, rfl, hok⟩ := hok
    obtain ⟨i, r, rfl, h1⟩ := a_r1_inv h
    obtain ⟨fs, h2, h3⟩ := a_ob_inv h1
    split at hok
    · rename_i q0 hq0
      simp only [Bool.and_eq_true] at hok
      obtain ⟨hl, hc⟩ := hok
      obtain ⟨n1, n2⟩ := a_nw_in hc
      obtain ⟨Z, hP, hD, hZ⟩ := hW
      have he := a_ws_at (ad := ad) (cA := X.2.2.1) (σ := σ) (Z := Z) h2
      exact va_castY hx hb hown (hts _ (a_g_in (a_w_in hl))) (hX.2.1 s hE _ n1 n2) (va_recv hK hP hq0 he) hd (hN _ _ _ _ _ _ h3 hcs hss H locs ls ⟨Z, hP, hD, hZ⟩ hS hlv)
    · cases hok
  case tableswitch d lo hi offs =>
    simp only [a_ok, Bool.and_eq_true, decide_eq_true_eq, beq_iff_eq] at hok
    obtain ⟨hd, hp0, hp1, hp2, hp3, hp4⟩ := hok
    obtain ⟨a, r, rfl, h1, h2⟩ := a_i1_inv h
    by_cases ho : a.toInt < lo ∨ hi < a.toInt
    · exact lv_tableOut hx hb hd ho (by rw [Int.toNat_of_nonneg hp0]) (hJ _ _ _ _ _ _ _ (h2 ho) hcs hss H locs ls hW hS hlv)
    · have ho1 : ¬ a.toInt < lo := fun q => ho (Or.inl q)
      have ho2 : ¬ hi < a.toInt := fun q => ho (Or.inr q)
      have hlt : (a.toInt - lo).toNat < offs.toList.length := by omega
      have hget : offs.toList[(a.toInt - lo).toNat]? = some offs.toList[(a.toInt - lo).toNat] := List.getElem?_eq_getElem hlt
      have hnn : 0 ≤ (pc : Int) + offs.toList[(a.toInt - lo).toNat] := of_decide_eq_true (List.all_eq_true.mp hp1 _ (List.getElem_mem hlt))
      exact lv_tableIn hx hb hd ho1 ho2 (by rw [← Array.getElem?_toList]; exact hget) (by rw [Int.toNat_of_nonneg hnn]) (hJ _ _ _ _ _ _ _ (a_sw_at h1 hget (by omega) (by omega) (by omega)) hcs hss H locs ls hW hS hlv)
  case invokevirtual ix =>
    simp only [a_ok, Bool.and_eq_true, decide_eq_true_eq, beq_iff_eq] at hok
    obtain ⟨hd, rfl, hok⟩ := hok
    simp only [a_one] at h
    cases q with
    | none => exact h.elim
    | some q9 =>
      simp only [Bool.and_eq_true] at hok
      obtain ⟨hm, hl, hin, hse, hini, hrc⟩ := hok
      obtain ⟨as, rest, hal, rfl, h1⟩ := a_take_inv h
      rw [List.append_nil] at h1
      obtain ⟨i, bs, rfl, h2, h3⟩ := a_rc_inv h1
      obtain ⟨h4, h5⟩ := a_if_inv h2
      obtain ⟨⟨hb1, hb2⟩, h6⟩ := a_cnt_inv h5 hcs hss
      obtain ⟨hcode, hR, hnm⟩ := a_dep hm
      have hrecv : ∃ cell : Cell, H[ad i]? = some cell ∧ cell.vm.isStatics = false ∧ s.vm.findClass q9.1.cls = some cell.cls := by
        obtain ⟨Z, hP, hD, hZ⟩ := id hW
        rcases h3 with ⟨rfl, fs, h7⟩ | ⟨rfl, j, rfl, h7⟩ | ⟨rfl, j, rfl, h7⟩
        · have hrc := of_decide_eq_true hrc
          obtain ⟨r0, hr1, hr2⟩ := Option.map_eq_some_iff.mp hrc
          have he := a_ws_at (ad := ad) (cA := X.2.2.1) (σ := σ) (Z := Z) h7
          rw [← hr2]
          exact va_recv hK hP hr1 he
        · have hrc := of_decide_eq_true hrc
          obtain ⟨q0, fs, h8⟩ := hX.2.2.1 ad z Z j h7 hZ
          rw [hrc]
          refine va_recv (q := (RJx4a65c, TJx4a65c, 3)) hK hP rfl (q0 := (a_ws ad X.2.2.1 L σ).length + q0) (ci := 2) (fs := fs) ?_
          rw [List.getElem?_append_right (Nat.le_add_right _ _), Nat.add_sub_cancel_left]
          exact h8
        · have hrc := of_decide_eq_true hrc
          obtain ⟨cell, g1, g2, g3, g4⟩ := hX.2.2.2.1 ad z Z s j hZ hE h7
          rw [hrc]
          exact ⟨cell, by rw [hS.2.1 _ ((Array.getElem?_eq_some_iff.mp g1).1) g4]; exact g1, g2, g3⟩
      have hst0 : ((.ref i :: bs).reverse ++ rest).map (a_cv ad) = (bs.map (a_cv ad)).reverse ++ .ref (ad i) :: rest.map (a_cv ad) := by
        simp [a_cv]
      refine a_goM (q := q9) (as := .ref i :: bs) (rest := rest) hS hlv hN hb1 hb2 ?_
      rw [hst0]
      exact va_runV (As := bs.map (a_cv ad)) (rest := rest.map (a_cv ad)) (n := a1) ⟨hx, hb, hml, hown, hts⟩ h6
        ⟨callB_of a1 hts (a_g_good hcode) rfl rfl rfl (hts _ (a_g_in (a_w_in hini))) (hts _ (a_g_in (a_w_in hl))) hnm hR, hts _ (a_g_in (a_w_in hin)), hts _ (a_g_in (a_w_in hse))⟩
        ⟨a_blind hX, hrecv, fun U hU hw => ⟨rfl, a_pre hX hC0 hW hS U hU hw⟩⟩ rfl (by simpa using hal) hlv.1 rfl (by
          show 2 * 0 + _ ≤ 8
          rw [a_map_cat]
          have := Nat.le_of_ble_eq_true h4
          omega) hd ⟨hb1, hb2⟩
  case invokestatic ix =>
    simp only [a_ok, Bool.and_eq_true, decide_eq_true_eq, beq_iff_eq] at hok
    obtain ⟨hd, rfl, hok⟩ := hok
    simp only [a_one] at h
    cases q with
    | some q9 =>
      simp only [Bool.and_eq_true] at hok
      obtain ⟨hm, hstt, hini, hl⟩ := hok
      obtain ⟨as, rest, hal, rfl, h2⟩ := a_take_inv h
      rw [List.append_nil] at h2
      obtain ⟨h4, h5⟩ := a_if_inv h2
      obtain ⟨⟨hb1, hb2⟩, h6⟩ := a_cnt_inv h5 hcs hss
      obtain ⟨hcode, hR, hnm⟩ := a_dep hm
      have hst0 : (as.reverse ++ rest).map (a_cv ad) = (as.map (a_cv ad)).reverse ++ rest.map (a_cv ad) := by simp
      have hroom : 2 * (F0 m pc ls ((as.map (a_cv ad)).reverse ++ rest.map (a_cv ad))).monitorRoom + ((rest.map (a_cv ad)).map fun v => v.category).sum ≤ 8 := by
        show 2 * 0 + _ ≤ 8
        rw [a_map_cat]
        have := Nat.le_of_ble_eq_true h4
        omega
      refine a_goM (q := q9) (as := as) (rest := rest) hS hlv hN hb1 hb2 ?_
      rw [hst0]
      split at hl
      · exact va_runS (As := as.map (a_cv ad)) (rest := rest.map (a_cv ad)) (n := a1) ⟨hx, hb, hml, hown, hts⟩ h6
          ⟨callB_of a1 hts (a_g_good hcode) rfl rfl rfl (hts _ (a_g_in (a_w_in hini))) (hts _ (a_g_in (a_w_in hl))) hnm hR, hts _ (a_g_in (a_w_in hstt))⟩
          ⟨a_blind hX, fun U hU hw => ⟨rfl, a_pre hX hC0 hW hS U hU hw⟩⟩ rfl (by simpa using hal) hlv.1 rfl hroom hd ⟨hb1, hb2⟩
      · obtain ⟨n1, n2⟩ := a_nw_in hl
        exact va_runSN (As := as.map (a_cv ad)) (rest := rest.map (a_cv ad)) (n := a1) ⟨hx, hb, hml, hown, hts⟩ h6
          ⟨va_cnB a1 hts (a_g_good hcode) rfl rfl rfl (hX.2.1 s hE _ n1 n2) (hts _ (a_g_in (a_w_in hini))) hnm hR, hts _ (a_g_in (a_w_in hstt)), trivial⟩
          ⟨a_blind hX, fun U hU hw => ⟨rfl, a_pre hX hC0 hW hS U hU hw⟩⟩ rfl (by simpa using hal) hlv.1 rfl hroom hd ⟨hb1, hb2⟩
    | none =>
      simp only [Bool.and_eq_true] at hok
      obtain ⟨w1, w2, w3, w4, w5⟩ := hok
      obtain ⟨a, b, r, rfl, h1⟩ := a_i2_inv h
      obtain ⟨h4, h5⟩ := a_if_inv h1
      have h4 := Nat.le_of_ble_eq_true h4
      have w5 := Nat.le_of_ble_eq_true w5
      exact va_mmin hx hb (by rw [hml, hlv.1]) hown (hts _ (a_g_in (a_w_in w1))) (hts _ (a_g_in (a_w_in w2))) (hts _ (a_g_in (a_w_in w3))) (hts _ (a_g_in (a_w_in w4))) w5 (by rw [a_map_cat]; simp only [a_rm]; omega) hcs hss hd (hN _ _ _ _ _ _ h5 hcs hss H locs ls hW hS hlv)
  case ireturn =>
    simp only [a_ok, Bool.and_eq_true, decide_eq_true_eq, beq_iff_eq] at hok
    obtain ⟨hd, rfl⟩ := hok
    simp only [a_one] at h
    split at h
    · rename_i v
      refine W.widen (k := k.2.2.2.2.2.1) (n := k.2.2.2.2.2.2) hcs hss ?_
      split at h
      · rename_i hrt
        exact W.iret (v := v) hx hb (hr.trans hrt) (fun t ht hw => ⟨⟨σ, z, some (.int v), rfl, h, by rw [ht]; exact hW⟩, hS.F ht⟩) hS.2.2 hd hlocks
      · rename_i hrt
        obtain ⟨h1, h2⟩ := h
        exact W.zret (v := v) hx hb (hr.trans hrt) (by rcases h1 with rfl | rfl <;> rfl) (fun t ht hw => ⟨⟨σ, z, some (.int v), rfl, h2, by rw [ht]; exact hW⟩, hS.F ht⟩) hS.2.2 hd hlocks
      · exact h.elim
    · exact h.elim
  case return_ =>
    simp only [a_ok, Bool.and_eq_true, decide_eq_true_eq, beq_iff_eq] at hok
    obtain ⟨hd, rfl, hrt⟩ := hok
    simp only [a_one] at h
    split at h
    · refine W.widen (k := k.2.2.2.2.2.1) (n := k.2.2.2.2.2.2) hcs hss ?_
      exact W.vret hx hb (hr.trans hrt) (fun t ht hw => ⟨⟨σ, z, none, rfl, h, by rw [ht]; exact hW⟩, hS.F ht⟩) hS.2.2 hd hlocks
    · exact h.elim
  all_goals exact h.elim
theorem a_run_ok (hX : a_okX X) (hC : a_Cx X k p s m args meth c) {AT J : Nat → Nat → Nat → aS → aZ → aV → List Value → Prop} {cuts : List (Nat × List Nat)}
    (hA : ∀ t cs ss σ z al st, AT t cs ss σ z al st → a_At X ad L k K p e s m args below meth c t cs ss σ z al st)
    (hJ : ∀ t cs ss σ z al st, J t cs ss σ z al st → a_At X ad L k K p e s m args below meth c t cs ss σ z al st) :
    ∀ (l : List aI) (pc cs ss : Nat) (σ : aS) (z : aZ) (al : aV) (st : List Value), a_oks k l pc = true → a_run X ad L k K AT cuts J l pc cs ss σ z al st → a_At X ad L k K p e s m args below meth c pc cs ss σ z al st := by
  intro l
  induction l with
  | nil => intro pc cs ss σ z al st _ h; exact h.elim
  | cons x r ih =>
    intro pc cs ss σ z al st hok h
    obtain ⟨i, len, ⟨a1, a2, a3⟩, cv, cal⟩ := x
    simp only [a_oks, Bool.and_eq_true] at hok
    refine a_one_ok hX hC hJ (fun cs ss σ z al st h1 => ?_) hok.1 h
    split at h1
    · intro g1 g2 H locs ls hW hS hlv
      exact hA _ _ _ _ _ _ _ h1 g1 g2 H locs ls hW hS (a_keep_has hlv)
    · exact ih _ _ _ _ _ _ _ hok.2 h1
theorem a_jmp_ok (hX : a_okX X) (hC : a_Cx X k p s m args meth c) {code : List aI} (hok : a_oks k code 0 = true) {AT : Nat → Nat → Nat → aS → aZ → aV → List Value → Prop}
    (hA : ∀ t cs ss σ z al st, AT t cs ss σ z al st → a_At X ad L k K p e s m args below meth c t cs ss σ z al st) (cuts : List (Nat × List Nat)) :
    ∀ (n t cs ss : Nat) (σ : aS) (z : aZ) (al : aV) (st : List Value), a_jmp X ad L k K code AT cuts n t cs ss σ z al st → a_At X ad L k K p e s m args below meth c t cs ss σ z al st := by
  intro n
  induction n with
  | zero => intro t cs ss σ z al st h; exact hA _ _ _ _ _ _ _ h
  | succ n ih =>
    intro t cs ss σ z al st h
    unfold a_jmp at h
    split at h
    · intro h1 h2 H locs ls hW hS hlv
      exact hA _ _ _ _ _ _ _ h h1 h2 H locs ls hW hS (a_keep_has hlv)
    · by_cases hne : a_suf code 0 t = []
      · rw [hne] at h
        exact h.elim
      · exact a_run_ok hX hC hA ih _ _ _ _ _ _ _ _ (a_oks_suf hok hne) h
end Snd
theorem a_args_map {ad : Nat → Nat} : ∀ (av : List Value) (i : Nat), lv_args i (av.map (a_cv ad)) = (lv_args i av).map (a_cl ad) := by
  intro av
  induction av with
  | nil => intro i; rfl
  | cons v r ih =>
    intro i
    simp only [List.map_cons, lv_args, a_cv_cat, ih, a_cl]
theorem a_sl_len {ad : Nat → Nat} : ∀ (av : List Value), (lg_sl (av.map (a_cv ad))).length = (lg_sl av).length := by
  intro av
  induction av with
  | nil => rfl
  | cons v r ih =>
    simp only [lg_sl, List.map_cons, List.flatMap_cons, List.length_append, a_cv_cat] at ih ⊢
    rw [ih]
    congr 1
    split <;> rfl
/-- what a method's list of instructions is looked at for, once -/
def a_good (k : aM) (code : List aI) : Bool := a_oks k code 0 && plainName k.1.cls
/-- a method is met, if its code is what it is said to be, and 'comes to K' holds at its entry, whatever 'comes to K' is, if only it is closed under running on -/
theorem a_Meets.of {X : aX} {ad : Nat → Nat} {L : List aC} {k : aM} {K : aS → aZ → Option Value → Prop} {σ : aS} {z : aZ} {av : List Value} (hX : a_okX X) {code : List aI} (hok : a_good k code = true)
    {al0 : aV} (hal : lv_args 0 av = al0) (hlen : Nat.ble (lg_sl av).length k.2.2.1 = true)
    (body : ∀ AT : Nat → Nat → Nat → aS → aZ → aV → List Value → Prop,
      (∀ (cuts : List (Nat × List Nat)) (n : Nat) {t cs ss : Nat} {σ : aS} {z : aZ} {al : aV} {st : List Value}, a_run X ad L k K AT cuts (a_jmp X ad L k K code AT cuts n) (a_suf code 0 t) t cs ss σ z al st → AT t cs ss σ z al st) →
      AT 0 0 0 σ z al0 []) : a_Meets X ad L k σ z av K := by
  simp only [a_good, Bool.and_eq_true] at hok
  refine Met.ofW (cc := k.2.1) (maxL := k.2.2.1) (ret := k.2.2.2.1) hok.2 rfl ?_
  intro p e s m args below meth c s₁ B hml hv
  obtain ⟨rfl, hN0, hK, hE, hW⟩ := hv
  have hC : a_Cx X k p s m ((av.map (a_cv ad)).toArray) meth c := ⟨B.exec, B.bytes, B.returns, hml, findClass_of_methodNamed B.named, atoms_spec (ws := a_wsM k) B.pre, B.notSynchronized, hN0, hK, hE⟩
  have hl := lv_entry (av.map (a_cv ad)) (n := k.2.2.1) (by rw [a_sl_len]; exact Nat.le_of_ble_eq_true hlen)
  rw [lg_entry_eq]
  generalize (lg_sl (av.map (a_cv ad)) ++ List.replicate (k.2.2.1 - (lg_sl (av.map (a_cv ad))).length) Slot.unset).toArray = ls at hl ⊢
  rw [a_args_map, hal] at hl
  have key := body (a_At X ad L k K p e s m ((av.map (a_cv ad)).toArray) below meth c) (fun cuts n {t cs ss σ z al st} h => by
    by_cases hne : a_suf code 0 t = []
    · rw [hne] at h
      exact h.elim
    · exact a_run_ok hX hC (fun _ _ _ _ _ _ _ h => h) (a_jmp_ok hX hC hok.1 (fun _ _ _ _ _ _ _ h => h) cuts n) _ _ _ _ _ _ _ _ (a_oks_suf hok.1 hne) h)
  exact key (Nat.zero_le _) (Nat.zero_le _) s.heap [] ls hW va_S.rf hl
