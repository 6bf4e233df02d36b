/-! at, which may throw; the law's own at, which catches -/
def atN : List String := ["java/lang/IndexOutOfBoundsException", "java/lang/RuntimeException", "java/lang/Exception"]
def atE : String := "java/lang/ArrayIndexOutOfBoundsException"
def atW : List Cond := vx_atS "FilingOrder" 120 atE atN
def isD (w : Cond) : Bool := match w with
  | .declares _ => true
  | _ => false
theorem atW_in : atW.all (fun w => decide (w ∈ lw_tbl)) = true := by decide +kernel
theorem atW_k : atW.all (fun w => goodWord w || a_isN w || isD w) = true := by decide +kernel
theorem atW_ot : (Cond.classLink "FilingOrder" 116 atE :: Cond.initialized atE :: atW).all (fun w => vx_ot w) = true := by decide +kernel
theorem at_fit : (Bundle.fit atE && atN.all (fun n => Bundle.fit n)) = true := by decide +kernel
theorem at_w1 : a_w (.classLink "FilingOrder" 116 atE) = true := by decide +kernel
theorem at_w2 : a_w (.initialized atE) = true := by decide +kernel
def okV (X : aX) : Prop := X.1.stackTraces = false ∧ ∀ s : State, X.2.2.2.2.1 s s.heap → (∀ w ∈ lw_tbl, isD w = true → va_Nw w s) ∧ vx_Zq Bundle.tN "UNASSIGNED_STACK" Bundle.steD (a_A X) s s.heap ∧ vx_Zq Bundle.tN "SUPPRESSED_SENTINEL" Bundle.listD (a_A X) s s.heap ∧ ∃ (tx : String) (sa : Nat), vk_R "FilingOrder" 118 tx sa s
def mX7_at : aM := (yX7_at, cX7_at, 2, (some .int), 9, 1, 6)
def qX7_at : List aI := [(.iload_n 1, 1, (1, 0, 0), 0, none), (.ifCond .lt 14, 3, (15, 0, 0), 0, none), (.iload_n 1, 1, (1, 0, 0), 0, none), (.aload_n 0, 1, (0, 0, 0), 0, none), (.getfield 44, 3, (10, 4, 0), 0, none), (.getfield 113, 3, (4, 1, 1), 0, none), (.if_icmp .lt 13, 3, (25, 0, 0), 0, none), (.nop, 3, (0, 0, 0), 0, none), (.nop, 1, (0, 0, 0), 0, none), (.nop, 2, (0, 0, 0), 0, none), (.nop, 3, (0, 0, 0), 0, none), (.nop, 1, (0, 0, 0), 0, none), (.aload_n 0, 1, (0, 0, 0), 0, none), (.getfield 44, 3, (10, 4, 0), 0, none), (.iload_n 1, 1, (1, 0, 0), 0, none), (.invokevirtual 123, 3, (1, 0, 4), 0, (some mX1_byteAt)), (.ireturn, 1, (0, 0, 0), 0, none)]
theorem rX7_at : b_good mX7_at qX7_at = true := by decide +kernel
def mL_at : aM := (yL_at, cL_at, 4, (some .int), 11, 1, 6)
def qL_at : List aI := [(.aload_n 2, 1, (2, 0, 0), 0, none), (.iconst 0, 1, (0, 0, 0), nI 0, none), (.aload_n 0, 1, (0, 0, 0), 0, none), (.iload_n 1, 1, (1, 0, 0), 0, none), (.nop, 3, (0, 0, 0), 0, none), (.i2l, 1, (0, 0, 0), 0, none), (.lastore, 1, (0, 0, 0), 0, none), (.goto 6, 3, (15, 0, 0), 0, none), (.astore_n 3, 1, (3, 0, 0), 0, none), (.iconst 1, 1, (0, 0, 0), nI 1, none), (.ireturn, 1, (0, 0, 0), 0, none), (.iconst 0, 1, (0, 0, 0), nI 0, none), (.ireturn, 1, (0, 0, 0), 0, none)]
theorem rL_at : b_good mL_at qL_at = true := by decide +kernel
section Bst
variable {X : aX} {k : aM} {R : Room} {Q : State → Prop} {K : va_W → Option Value → Prop} {p : Program} {e : Env} {s : State} {m : MethodId} {args : Array Value} {below : List Frame} {meth : Method} {c : Code}
theorem b_step (hX : b_okX X) (hC : b_Cx X k R p s m args meth c) (hRt : b_Rt X k R Q K p e s m args below meth c) {code : List aI} (hok : b_good k code = true) (cuts : List (Nat × List Nat)) (n : Nat) {t cs ss : Nat} {ws : va_W} {al : aV} {st : List Value}
    (h : b_run X k K (b_At X k R Q p e s m args below meth c) cuts (b_jmp X k K code (b_At X k R Q p e s m args below meth c) cuts n) (a_suf code 0 t) t cs ss ws al st) : b_At X k R Q p e s m args below meth c t cs ss ws al st := by
  simp only [b_good, Bool.and_eq_true] at hok
  by_cases hne : a_suf code 0 t = []
  · rw [hne] at h
    exact h.elim
  · exact b_run_ok hX hC hRt (fun _ _ _ _ _ _ h => h) (b_jmp_ok hX hC hRt hok.1 (fun _ _ _ _ _ _ h => h) cuts n) _ _ _ _ _ _ _ (b_oks_suf hok.1 hne) h
end Bst
def xC (X : aX) (ws : va_W) (bad : Prop) : String → State → State → Prop := fun E st t => E = atE ∧ bad ∧ va_P X.2.1 vwCl ws t.heap ∧ va_D (a_A X) ws ∧ va_F (a_A X) st t
theorem x_at {X : aX} {ws : va_W} {K : va_W → Option Value → Prop} {G : va_W → Prop} (hX : b_okX X) (hV : okV X) {o kr n qo qk : Nat} {fs : List Value} {bv : Value} (ho : ws[qo]? = some (o, .inr (10, fs))) (h4 : fs[4]? = some (.ref kr)) (hk : ws[qk]? = some (kr, .inr (4, [bv, .int (nI n)]))) (hn : n ≤ 240) {i : Int32} {v : Nat → Int32}
    (hb : ∀ (j : Nat) (K' : va_W → Option Value → Prop), j < n → (∀ ws', G ws' → K' ws' (some (.int (v j)))) → b_Meets X mX1_byteAt ws [.ref kr, .int (nI j)] K') (hT : ∀ j, j < n → i = nI j → ∀ ws', G ws' → K ws' (some (.int (v j)))) :
    vx_Met X.1 mX7_at.1 (a_wsM mX7_at) (a_rm mX7_at) (va_Pc [.ref o, .int i] (b_Pr X ws)) (b_Qc X K) (xC X ws (¬ ∃ j, j < n ∧ i = nI j)) 1 6 (a_A X) := by
  refine vx_ofW (cc := cX7_at) (maxL := 2) (ret := some .int) (by decide) rfl ?_
  intro p e s m args below meth c s₁ B hml hno hv
  obtain ⟨rfl, hN0, hK, hE, hP, hD⟩ := hv
  have hts0 := atoms_spec (ws := a_wsM mX7_at) B.pre
  have hts : ∀ w ∈ lw_g, w.before ([Value.ref o, .int i].toArray) s = true := fun w hw => hts0 w (a_g_in hw)
  have hC : b_Cx X mX7_at (a_rm mX7_at) p s m [Value.ref o, .int i].toArray meth c := ⟨B.exec, B.bytes, hml, findClass_of_methodNamed B.named, hts, hN0, hK, hE, (name_of_methodNamed B.named B.method).1, Nat.le_refl _, Nat.le_refl _, Nat.le_refl _, Nat.le_refl _⟩
  have hRt : b_Rt X mX7_at (a_rm mX7_at) (vx_MQ below (b_Qc X K) (xC X ws (¬ ∃ j, j < n ∧ i = nI j)) [Value.ref o, .int i].toArray s 1 6 (a_A X)) (fun ws r => K ws r ∧ b_rt (some .int) r) p e s m [Value.ref o, .int i].toArray below meth c := by
    intro pc cs ss ws ls st r H locs i hd hst hKr hcs hss hP hD hS
    refine vx_ret ?_
    refine W.widen (k := 1) (n := 6) hcs hss ?_
    obtain ⟨hKr, hbt⟩ := hKr
    have hq : ∀ (args : Array Value) (t : State), t.heap = H → s.WarmedH t.vm → b_Qc X K args s (.returned r) t := fun args t ht hw => ⟨⟨ws, r, rfl, hKr, by rw [ht]; exact hP, hD⟩, hS.F ht⟩
    rcases hst with ⟨v, rfl, rfl, rfl⟩ | ⟨v, rfl, rfl, rfl⟩ | ⟨rfl, rfl, rfl⟩
    · exact W.iret (v := v) B.exec B.bytes B.returns (hq _) hS.2.2 hd B.notSynchronized
    · exact hbt.elim
    · exact hbt.elim
  have step := @b_step _ _ _ _ _ p e s m _ below meth c hX hC hRt _ rX7_at
  have c15 : (¬ ∃ j, j < n ∧ i = nI j) → b_At X mX7_at (a_rm mX7_at) (vx_MQ below (b_Qc X K) (xC X ws (¬ ∃ j, j < n ∧ i = nI j)) [Value.ref o, .int i].toArray s 1 6 (a_A X)) p e s m [Value.ref o, .int i].toArray below meth c 15 0 0 ws [] [] := by
    intro hbad hcs hss H locs ls hP hD hS hlv
    obtain ⟨hV1, hV2⟩ := hV
    obtain ⟨v1, v2, v3, tx, sa, v4⟩ := hV2 s hE
    have hfit := at_fit
    rw [Bool.and_eq_true] at hfit
    refine vx_throwS (own := "FilingOrder") (cls := atE) (names := atN) (ik := 116) (is := 118) (ic := 120) B.exec B.bytes hV1 (findClass_of_methodNamed B.named) hfit.1 (fun n hn => List.all_eq_true.mp hfit.2 n hn) (hts _ (a_w_in at_w1)) (hts _ (a_w_in at_w2)) v4 (fun w hw => ?_) (fun w hw => List.all_eq_true.mp atW_ot w hw) v2 v3 hS (by rw [hlv.1]; exact hml.symm) (by decide +kernel) (by decide +kernel) (by decide +kernel) (by decide +kernel) (by decide +kernel) (fun x hx => (hno x hx).elim) (by decide) (by decide) (by decide) (by decide) B.notSynchronized (fun t ht1 ht2 ht3 => ?_) hS.2.2 (by decide) (by decide)
    · have w1 := of_decide_eq_true (List.all_eq_true.mp atW_in w hw)
      have w2 := List.all_eq_true.mp atW_k w hw
      simp only [Bool.or_eq_true] at w2
      rcases w2 with (w2 | w2) | w2
      · exact hts w (List.mem_filter.mpr ⟨w1, w2⟩)
      · have w3 := hX.2.1 s hE w w1 w2
        cases w <;> first | exact va_Nw.use rfl w3 | cases w2
      · have w3 := v1 w w1 w2
        cases w <;> first | exact va_Nw.use rfl w3 | cases w2
    · exact ⟨rfl, hbad, hP.kept (fun k q hk => ht3 q.1 (hP k q hk).lt), hD, Nat.le_trans hS.1 ht2, fun q q1 q2 => (ht3 q (Nat.lt_of_lt_of_le q1 hS.1)).trans (hS.2.1 q q1 q2)⟩
  have hl := lv_entry [Value.ref o, .int i] (n := 2) (Nat.le_of_ble_eq_true rfl)
  rw [lg_entry_eq]
  generalize (lg_sl [Value.ref o, .int i] ++ List.replicate (2 - (lg_sl [Value.ref o, .int i]).length) Slot.unset).toArray = ls at hl ⊢
  refine step [(15, [])] 3 (t := 0) (cs := 0) (ss := 0) (ws := ws) (al := [(0, .ref o), (1, .int i)]) (st := []) ?_ (Nat.zero_le _) (Nat.zero_le _) s.heap [] ls hP hD va_S.rf hl
  refine ⟨fun g => c15 ?_, fun g => ⟨qo, fs, _, ho, h4, qk, _, _, hk, rfl, fun g2 => ?_, fun g2 => c15 ?_⟩⟩
  · rintro ⟨j, hj, rfl⟩
    exact nI_pos (by omega) g
  · obtain ⟨j, hj, rfl⟩ := nI_of g
    have g2 : j < n := (nI_ltI (by omega) (by omega)).mp g2
    refine ⟨qo, fs, _, ho, h4, ⟨qk, _, hk⟩, ?_⟩
    refine hb j _ g2 (fun ws' hG => ?_)
    exact ⟨hT j g2 rfl ws' hG, trivial⟩
  · rintro ⟨j, hj, rfl⟩
    exact g2 (nI_lt hj (by omega))
