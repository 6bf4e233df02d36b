/-! The law's own at -/
def wsLat : List Cond := .codeWith yL_at cL_at 4 (some .int) [(0, 9, 12, 13)] :: lw_g
theorem lat_w1 : a_w (.classLink "FilingOrderLaw" 13 atE) = true := by decide +kernel
theorem lat_w2 : a_nw (.castable atE atE) = true := by decide +kernel
theorem lat_w3 : (a_mok mL_at mX7_at 1 && (a_w (.methodLink "FilingOrderLaw" 7 yX7_at) && (a_w (.instanceMethod yX7_at) && (a_w (.selects RX7 yX7_at yX7_at) && a_w (.initialized RX7))))) = true := by decide +kernel
theorem lat_d4 : decode cL_at 4 = .ok (.invokevirtual 7, 3) := by decide +kernel
theorem x_lat {X : aX} {ws : va_W} {K : va_W → Option Value → Prop} {G : va_W → Prop} (hX : b_okX X) (hV : okV X) {o kr n qo qk oa : Nat} {fs : List Value} {bv : Value} (ho : ws[qo]? = some (o, .inr (10, fs))) (h4 : fs[4]? = some (.ref kr)) (hk : ws[qk]? = some (kr, .inr (4, [bv, .int (nI n)]))) (hn : n ≤ 240) {i : Int32} {v : Nat → Int32}
    (hb : ∀ (j : Nat) (K' : va_W → Option Value → Prop), j < n → (∀ ws', G ws' → K' ws' (some (.int (v j)))) → b_Meets X mX1_byteAt ws [.ref kr, .int (nI j)] K')
    (hT : ∀ j, j < n → i = nI j → ∀ ws', G ws' → ∃ (qa : Nat) (g : Nat → Int64), ws'[qa]? = some (oa, .inl (X.2.2.1 5, 1, .inr (.inl g))) ∧ K (ws'.set qa (oa, .inl (X.2.2.1 5, 1, .inr (.inl (vp_updL g 0 (v j).toInt64))))) (some (.int (nI 0)))) (hF : (¬ ∃ j, j < n ∧ i = nI j) → K ws (some (.int (nI 1)))) :
    Met X.1 yL_at wsLat (a_rm mL_at) (va_Pc [.ref o, .int i, .ref oa] (b_Pr X ws)) (b_Qc X K) 1 6 (a_A X) := by
  refine va_MetW (cc := cL_at) (maxL := 4) (ret := some .int) (hh := [(0, 9, 12, 13)]) (by decide) rfl ?_
  intro p e s m args below meth c s₁ B hml hv
  obtain ⟨rfl, hN0, hK, hE, hP, hD⟩ := hv
  have hts0 := atoms_spec (ws := wsLat) B.pre
  have hts : ∀ w ∈ lw_g, w.before ([Value.ref o, .int i, .ref oa].toArray) s = true := fun w hw => hts0 w (List.mem_cons_of_mem _ hw)
  have htab : c.exceptionTable.toList = tableOf [(0, 9, 12, 13)] := vx_table (x := yL_at) B (hts0 _ List.mem_cons_self)
  have hown := findClass_of_methodNamed B.named
  have hC : b_Cx X mL_at (a_rm mL_at) p s m [Value.ref o, .int i, .ref oa].toArray meth c := ⟨B.exec, B.bytes, hml, hown, hts, hN0, hK, hE, (name_of_methodNamed B.named B.method).1, Nat.le_refl _, Nat.le_refl _, Nat.le_refl _, Nat.le_refl _⟩
  have hRt : b_Rt X mL_at (a_rm mL_at) (MQ below (b_Qc X K) [Value.ref o, .int i, .ref oa].toArray s 1 6 (a_A X)) (fun ws r => K ws r ∧ b_rt (some .int) r) p e s m [Value.ref o, .int i, .ref oa].toArray below meth c := by
    intro pc cs ss ws ls st r H locs i hd hst hKr hcs hss hP hD hS
    refine W.widen (k := 1) (n := 6) hcs hss ?_
    obtain ⟨hKr, hbt⟩ := hKr
    have hq : ∀ (args : Array Value) (t : State), t.heap = H → s.WarmedH t.vm → b_Qc X K args s (.returned r) t := fun args t ht hw => ⟨⟨ws, r, rfl, hKr, by rw [ht]; exact hP, hD⟩, hS.F ht⟩
    rcases hst with ⟨v, rfl, rfl, rfl⟩ | ⟨v, rfl, rfl, rfl⟩ | ⟨rfl, rfl, rfl⟩
    · exact W.iret (v := v) B.exec B.bytes B.returns (hq _) hS.2.2 hd B.notSynchronized
    · exact hbt.elim
    · exact hbt.elim
  have step := @b_step _ _ _ _ _ p e s m _ below meth c hX hC hRt _ rL_at
  have c12 : ∀ q : Nat, (¬ ∃ j, j < n ∧ i = nI j) → b_At X mL_at (a_rm mL_at) (MQ below (b_Qc X K) [Value.ref o, .int i, .ref oa].toArray s 1 6 (a_A X)) p e s m [Value.ref o, .int i, .ref oa].toArray below meth c 12 1 6 ws [(0, .ref o), (1, .int i), (2, .ref oa)] [.ref q] := by
    intro q hbad
    refine step [] 1 ?_
    exact ⟨hF hbad, trivial⟩
  have c7 : ∀ ws' : va_W, G ws' → ∀ j, j < n → i = nI j → b_At X mL_at (a_rm mL_at) (MQ below (b_Qc X K) [Value.ref o, .int i, .ref oa].toArray s 1 6 (a_A X)) p e s m [Value.ref o, .int i, .ref oa].toArray below meth c 7 1 6 ws' [(0, .ref o), (1, .int i), (2, .ref oa)] [.int (v j), .int (nI 0), .ref oa] := by
    intro ws' hG j hj hi
    obtain ⟨qa, g, hqa, hT⟩ := hT j hj hi ws' hG
    refine step [] 2 ?_
    refine ⟨qa, 1, g, hqa, 0, ⟨by decide, by decide, rfl⟩, ?_⟩
    exact ⟨hT, trivial⟩
  have c4 : b_At X mL_at (a_rm mL_at) (MQ below (b_Qc X K) [Value.ref o, .int i, .ref oa].toArray s 1 6 (a_A X)) p e s m [Value.ref o, .int i, .ref oa].toArray below meth c 4 0 0 ws [(0, .ref o), (1, .int i), (2, .ref oa)] [.int i, .ref o, .int (nI 0), .ref oa] := by
    intro hcs hss H locs ls hP hD hS hlv
    have hw3 := lat_w3
    simp only [Bool.and_eq_true] at hw3
    obtain ⟨w1, w2, w3, w4, w5⟩ := hw3
    obtain ⟨hcode, hR, hnm2⟩ := b_dep (R := a_rm mL_at) w1 ⟨Nat.le_refl _, Nat.le_refl _⟩
    have hM := x_at (K := fun ws' r => G ws' ∧ ∃ j, j < n ∧ i = nI j ∧ r = some (.int (v j))) hX hV ho h4 hk hn hb (fun j hj hi ws' hG => ⟨hG, j, hj, hi, rfl⟩)
    have hr := vx_runV (e := e) (below := below) (meth := meth) (c := c) (H := H) (locs := locs) (cells := 0) (slots := 0) (As := [.int i]) (rest := [.int (nI 0), .ref oa]) (n := 1) (b := o) (g := F0 m 4 ls [.int i, .ref o, .int (nI 0), .ref oa]) ⟨B.exec, B.bytes, hml, hown, hts⟩ hM
      ⟨callB_of (R := a_rm mL_at) 1 hts (b_good_in hcode) rfl rfl rfl (hts _ (a_w_in w5)) (hts _ (a_w_in w2)) hnm2 hR, hts _ (a_w_in w3), hts _ (a_w_in w4)⟩
      ⟨b_blind hX, va_recv (q := (RX7, TX7, 10)) hK hP rfl ho, fun U hU hw => ⟨rfl, b_pre hX hN0 hK hE hP hD hS U hU hw⟩⟩ rfl rfl hlv.1 rfl (Nat.le_of_ble_eq_true rfl) lat_d4 ⟨by decide, by decide⟩
    intro T hT XX
    rcases hr T hT XX with ⟨v9, st₀, t, T', L, h0, X', hL, e1, e2, ⟨⟨ws', r, hv9, ⟨hG, j, hj, hi, rfl⟩, hP', hD'⟩, hF'⟩, st⟩ | ⟨q, st₀, t, T', L, E, ce, h0, X', hL, e1, e2, ⟨rfl, hbad, hP', hD', hF'⟩, hce, hcv, hcl, st⟩
    · cases hv9
      obtain ⟨k1, k2, k3⟩ := vx_keep (A0 := a_A X) (H0 := s.heap) (free := a_A X) h0 e1 hS (fun _ _ h => h) (fun _ h => h) hL hF'
      obtain ⟨t2, a1, b1⟩ := c7 ws' hG j hj hi (by decide) (by decide) T'.heap (locs ++ L) ls (by rw [e1]; exact hP') hD' k3 hlv T' rfl X'
      exact ⟨t2, st t2 a1, b1⟩
    · obtain ⟨k1, k2, k3⟩ := vx_keep (A0 := a_A X) (H0 := s.heap) (free := a_A X) h0 e1 hS (fun _ _ h => h) (fun _ h => h) hL hF'
      obtain ⟨n1, n2⟩ := a_nw_in lat_w2
      have hcatch := vx_catch (own := "FilingOrderLaw") (name := atE) (E := atE) (pc := 4) (ls := ls) (rest := [.int (nI 0), .ref oa]) (H := T'.heap) (q := q) hown [] ⟨0, 9, 12, 13⟩ [] htab (fun _ h => nomatch h) (by decide) (by decide) (hts _ (a_w_in lat_w1)) (va_Nw.use rfl (hX.2.1 s hE _ n1 n2)) (by rw [e1]; exact hce) hcv hcl
        (c12 q hbad (by decide) (by decide) T'.heap (locs ++ L) ls (by rw [e1]; exact hP') hD' k3 hlv)
      obtain ⟨t2, a1, b1⟩ := hcatch T' rfl X'
      exact ⟨t2, Steps.trans st a1, b1⟩
  have hl := lv_entry [Value.ref o, .int i, .ref oa] (n := 4) (Nat.le_of_ble_eq_true rfl)
  rw [lg_entry_eq]
  generalize (lg_sl [Value.ref o, .int i, .ref oa] ++ List.replicate (4 - (lg_sl [Value.ref o, .int i, .ref oa]).length) Slot.unset).toArray = ls at hl ⊢
  exact step [(4, [0, 1, 2])] 1 (t := 0) (cs := 0) (ss := 0) (ws := ws) (al := [(0, .ref o), (1, .int i), (2, .ref oa)]) (st := []) c4 (Nat.zero_le _) (Nat.zero_le _) s.heap [] ls hP hD va_S.rf hl
