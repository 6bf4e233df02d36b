/-! The rest of the reference's methods, and the class's small ones -/
def tb (c : Int32) : Nat := c.toBitVec.toNat % 256
theorem tb_lt (c : Int32) : tb c < 256 := Nat.mod_lt _ (by decide)
theorem tb_and (c : Int32) : c &&& nI 255 = nI (tb c) := pk_and c 8 (by decide)
theorem tb_b (c : Int32) : vp_nar .byte c.toInt8.toInt32 = sb_b (tb c) := by
  rw [pk_vb]
  unfold sb_b
  congr 1
  apply Int8.toBitVec_inj.mp
  apply BitVec.eq_of_toNat_eq
  have h1 : (nI (tb c)).toBitVec.toNat = tb c := pk_tn (Nat.lt_trans (tb_lt c) (by decide))
  simp only [Int32.toBitVec_toInt8, BitVec.signExtend_eq_setWidth_of_le _ (show 8 ≤ 32 by decide), BitVec.toNat_setWidth, h1]
  unfold tb
  omega
section Mo
variable {X : aX} {ad : Nat → Nat} {ns : List Nat} {σ : aS} {z : aZ} {K : aS → aZ → Option Value → Prop} {recs : mR} {key : List Nat} {fl : List Nat}
theorem dF_0 {v : Int32} (h : dF σ fl) : dF (a_up σ 15 0 v) fl := ⟨by simp [a_up, h.1], fun k hk => by simp [a_up]; exact h.2 k hk⟩
theorem dR_0 {v : Int32} (h : dR σ recs) : dR (a_up σ 15 0 v) recs := ⟨by simp [a_up, h.1], fun r hr => by simp [a_up]; exact h.2 r hr⟩
theorem dK_0 {v : Int32} (h : dK σ key) : dK (a_up σ 15 0 v) key := ⟨by simp [a_up, h.1], fun k hk => by simp [a_up]; exact h.2 k hk⟩
theorem dN_0 {v : Int32} {nm : List (Nat × Bool × Nat)} (h : dN σ nm) : dN (a_up σ 15 0 v) nm := ⟨by simp [a_up, h.1], fun k hk => by simp [a_up]; exact h.2 k hk⟩
theorem t_mbrowse (hX : a_okX X) (hd : dF σ fl) (hfl : fl.length ≤ 60) {x i : Int32} (hK : K (a_up σ 15 0 (nI 0)) z (some (.int (mBr fl i (pOf fl x 0 fl.length))))) : a_Meets X ad (a_LL ns) mX8_browse σ z [.ref 15, .int x, .int i] K := by
  refine a_Meets.of hX oX8_browse (al0 := [(0, .ref 15), (1, .int x), (2, .int i)]) rfl rfl (fun AT step => ?_)
  have hd0 := dF_0 (v := nI 0) hd
  generalize hσ : a_up σ 15 0 (nI 0) = σ0 at hK hd0
  have loop : ∀ (n p : Nat) (y : Int32), y = nI p → p + n = fl.length → pOf fl x p n = pOf fl x 0 fl.length → AT 7 0 0 σ0 z [(0, .ref 15), (1, .int x), (2, .int i), (3, .int y)] [] := by
    intro n
    induction n with
    | zero =>
      intro p y hy hp hpo
      subst hy
      refine step [(7, [0, 1, 2, 3])] 5 ?_
      refine ⟨fun g => ?_, fun g => ?_⟩
      · rw [← hpo] at hK
        exact hK
      · rw [hd0.1, nI_leI (by omega) (by omega)] at g
        omega
    | succ n ih =>
      intro p y hy hp hpo
      subst hy
      have e1 := hd0.2 p (by omega)
      simp only [pOf] at hpo
      refine step [(7, [0, 1, 2, 3])] 5 ?_
      refine ⟨fun g => ?_, fun g => ?_⟩
      · rw [hd0.1, nI_leI (by omega) (by omega)] at g
        omega
      · refine ⟨p, ⟨by omega, by omega, rfl⟩, ?_⟩
        refine ⟨fun g2 => ?_, fun g2 => ?_⟩
        · rw [e1] at g2
          rw [if_neg g2] at hpo
          exact ih (p + 1) _ (nI_add p 1) (by omega) hpo
        · rw [e1] at g2
          rw [if_pos g2] at hpo
          rw [← hpo] at hK
          simp only [mBr] at hK
          refine ⟨fun g3 => ?_, fun g3 => ⟨fun g4 => ?_, fun g4 => ?_⟩⟩
          · rw [lg_lt0, Int64.lt_iff_toInt_lt, br_sum (by omega)] at g3
            rw [if_neg (by simp at g3; omega)] at hK
            exact hK
          · rw [hd0.1, lg_cmp_ge, Int64.le_iff_toInt_le, br_sum (by omega), Int32.toInt_toInt64, nI_toInt (by omega)] at g4
            rw [if_neg (by omega)] at hK
            exact hK
          · rw [lg_lt0, Int64.lt_iff_toInt_lt, br_sum (by omega)] at g3
            rw [hd0.1, lg_cmp_ge, Int64.le_iff_toInt_le, br_sum (by omega), Int32.toInt_toInt64, nI_toInt (by omega)] at g4
            rw [if_pos (by simp at g3; omega)] at hK
            obtain ⟨j, hj⟩ : ∃ j : Nat, (p : Int) + i.toInt = j := ⟨((p : Int) + i.toInt).toNat, by simp at g3; omega⟩
            rw [hj] at hK g4
            rw [Int.toNat_natCast] at hK
            refine ⟨j, ⟨by omega, by omega, br_l2i (by omega) hj (by omega)⟩, ?_⟩
            show K _ _ (some (.int (σ0 27 j)))
            rw [hd0.2 j (by omega)]
            exact hK
  refine step [(7, [0, 1, 2, 3])] 5 ?_
  show AT 7 0 0 (a_up σ 15 0 (nI 0)) z [(0, .ref 15), (1, .int x), (2, .int i), (3, .int (nI 0))] []
  rw [hσ]
  exact loop fl.length 0 _ rfl (Nat.zero_add _) rfl
theorem t_mseek (hX : a_okX X) (hr : rOK recs) (hk : kb key) (hd : dR σ recs) (hdk : dK σ key) (hf : dF σ fl) (hfl : fl.length ≤ 60) (hfr : ∀ r ∈ fl, r < recs.length) (hK : K (a_up σ 15 0 (nI 0)) z (some (.int (mSk recs key fl 0 fl.length)))) : a_Meets X ad (a_LL ns) mX8_seek σ z [.ref 15] K := by
  refine a_Meets.of hX oX8_seek (al0 := [(0, .ref 15)]) rfl rfl (fun AT step => ?_)
  have hf0 := dF_0 (v := nI 0) hf
  have hd0 := dR_0 (v := nI 0) hd
  have hk0 := dK_0 (v := nI 0) hdk
  have hl := hr.1
  generalize hσ : a_up σ 15 0 (nI 0) = σ0 at hK hd0 hf0 hk0
  have loop : ∀ (n p : Nat) (y : Int32), y = nI p → p + n = fl.length → mSk recs key fl p n = mSk recs key fl 0 fl.length → AT 7 0 0 σ0 z [(0, .ref 15), (1, .int y)] [] := by
    intro n
    induction n with
    | zero =>
      intro p y hy hp hpo
      subst hy
      refine step [(7, [0, 1])] 5 ?_
      refine ⟨fun g => ?_, fun g => ?_⟩
      · rw [← hpo] at hK
        exact hK
      · rw [hf0.1, nI_leI (by omega) (by omega)] at g
        omega
    | succ n ih =>
      intro p y hy hp hpo
      subst hy
      have e1 := hf0.2 p (by omega)
      have hm := fl_lt hfr (show p < fl.length by omega)
      simp only [mSk] at hpo
      refine step [(7, [0, 1])] 5 ?_
      refine ⟨fun g => ?_, fun g => ?_⟩
      · rw [hf0.1, nI_leI (by omega) (by omega)] at g
        omega
      · refine ⟨p, ⟨by omega, by omega, rfl⟩, ?_⟩
        show a_Meets _ _ _ _ _ _ [.ref 15, .int (σ0 27 p), .int (nI 0)] _
        rw [e1]
        refine t_morder hX hr hk hd0 hk0 (a := fl.getD p 0 + 1) (b := 0) (by omega) (by omega) (fun r h1 h2 => ?_)
        have ea : kOf key recs (fl.getD p 0 + 1) = kyO recs (fl.getD p 0) := by unfold kOf; rw [if_neg (by omega)]; rfl
        have eb : kOf key recs 0 = key := by unfold kOf; rw [if_pos rfl]
        rw [ea, eb] at h1 h2
        refine ⟨fun g2 => ?_, fun g2 => ?_⟩
        · rw [h1] at g2
          rw [if_neg (by omega)] at hpo
          exact ih (p + 1) _ (nI_add p 1) (by omega) hpo
        · rw [h1] at g2
          rw [if_pos (by omega)] at hpo
          rw [← hpo] at hK
          refine ⟨p, ⟨by omega, by omega, rfl⟩, ?_⟩
          show K _ _ (some (.int (σ0 27 p)))
          rw [e1]
          exact hK
  refine step [(7, [0, 1])] 5 ?_
  show AT 7 0 0 (a_up σ 15 0 (nI 0)) z [(0, .ref 15), (1, .int (nI 0))] []
  rw [hσ]
  exact loop fl.length 0 _ rfl (Nat.zero_add _) rfl
theorem t_misRecord (hX : a_okX X) (hd : dR σ recs) (hl : recs.length ≤ 60) {x : Int32} (hK : K σ z (some (.int (b2i (isR recs.length x))))) : a_Meets X ad (a_LL ns) mX8_isRecord σ z [.ref 15, .int x] K := by
  refine a_Meets.of hX oX8_isRecord (al0 := [(0, .ref 15), (1, .int x)]) rfl rfl (fun AT step => ?_)
  refine step [] 5 ?_
  refine ⟨fun g => ?_, fun g => ⟨fun g2 => ?_, fun g2 => ?_⟩⟩
  · rw [Int32.le_iff_toInt_le] at g
    simp at g
    exact k_b0 hK (by simp [isR]; omega)
  · rw [hd.1, Int32.lt_iff_toInt_lt, nI_toInt (by omega)] at g2
    exact k_b0 hK (by simp [isR]; omega)
  · rw [Int32.le_iff_toInt_le] at g
    simp at g
    rw [hd.1, Int32.lt_iff_toInt_lt, nI_toInt (by omega)] at g2
    exact k_b1 hK (by simp [isR]; omega)
theorem t_mcompare (hX : a_okX X) (hr : rOK recs) (hk : kb key) (hd : dR σ recs) (hdk : dK σ key) {x y : Int32} (hK : K (a_up σ 15 0 (nI 0)) z (some (.int (mCm recs x y)))) : a_Meets X ad (a_LL ns) mX8_compare σ z [.ref 15, .int x, .int y] K := by
  refine a_Meets.of hX oX8_compare (al0 := [(0, .ref 15), (1, .int x), (2, .int y)]) rfl rfl (fun AT step => ?_)
  have hd0 := dR_0 (v := nI 0) hd
  have hk0 := dK_0 (v := nI 0) hdk
  have hl := hr.1
  unfold mCm at hK
  refine step [] 6 ?_
  refine t_misRecord hX hd0 hl ?_
  refine ⟨fun g => ?_, fun g => ?_⟩
  · rw [b2i_0] at g
    rw [g, Bool.false_and, if_neg (by decide)] at hK
    exact hK
  · rw [b2i_0] at g
    have g := (Bool.not_eq_false _).mp g
    refine t_misRecord hX hd0 hl ?_
    refine ⟨fun g2 => ?_, fun g2 => ?_⟩
    · rw [b2i_0] at g2
      have g2 := (Bool.not_eq_false _).mp g2
      rw [g, g2, Bool.true_and, if_pos rfl] at hK
      obtain ⟨a, ha, rfl⟩ := isR_t (by omega) g
      obtain ⟨b, hb, rfl⟩ := isR_t (by omega) g2
      rw [nI_toInt (by omega), nI_toInt (by omega), show ((a + 1 : Nat) : Int).toNat - 1 = a by omega, show ((b + 1 : Nat) : Int).toNat - 1 = b by omega] at hK
      refine t_morder hX hr hk hd0 hk0 (a := a + 1) (b := b + 1) (by omega) (by omega) (fun r h1 h2 => ?_)
      have ea : kOf key recs (a + 1) = kyO recs a := by unfold kOf; rw [if_neg (by omega)]; rfl
      have eb : kOf key recs (b + 1) = kyO recs b := by unfold kOf; rw [if_neg (by omega)]; rfl
      rw [ea, eb] at h1 h2
      unfold lI at hK
      rw [← Int32.toInt_inj] at h2
      rw [Int32.lt_iff_toInt_lt] at h1
      simp at h1 h2
      refine ⟨fun g3 => ⟨fun g4 => ?_, fun g4 => ?_⟩, fun g3 => ?_⟩
      · rw [Int32.le_iff_toInt_le] at g3 g4
        simp at g3 g4
        rw [if_neg (by omega), if_pos (by omega)] at hK
        exact hK
      · rw [Int32.le_iff_toInt_le] at g3 g4
        simp at g3 g4
        rw [if_neg (by omega), if_neg (by omega)] at hK
        exact hK
      · rw [Int32.le_iff_toInt_le] at g3
        simp at g3
        rw [if_pos (by omega)] at hK
        exact hK
    · rw [b2i_0] at g2
      rw [g2, Bool.and_false, if_neg (by decide)] at hK
      exact hK
theorem t_mequal (hX : a_okX X) (hr : rOK recs) (hk : kb key) (hd : dR σ recs) (hdk : dK σ key) {x i : Int32} (hK : K (a_up σ 15 0 (nI 0)) z (some (.int (mEq recs x i)))) : a_Meets X ad (a_LL ns) mX8_equal σ z [.ref 15, .int x, .int i] K := by
  refine a_Meets.of hX oX8_equal (al0 := [(0, .ref 15), (1, .int x), (2, .int i)]) rfl rfl (fun AT step => ?_)
  have hd0 := dR_0 (v := nI 0) hd
  have hk0 := dK_0 (v := nI 0) hdk
  have hl := hr.1
  unfold mEq at hK
  generalize hσ : a_up σ 15 0 (nI 0) = σ0 at hK hd0 hk0
  have c64 : (¬ (isR recs.length x = true ∧ 0 ≤ i) ∨ recs.length = 0) → AT 64 0 0 σ0 z [] [] := by
    intro q
    refine step [] 5 ?_
    split at hK
    · rename_i h
      rcases q with q | q
      · exact absurd h q
      · rw [q] at hK
        exact hK
    · exact hK
  have loop : ∀ (n r b : Nat) (u v : Int32), u = nI b → v = nI (r + 1) → r + n = recs.length → (isR recs.length x = true ∧ 0 ≤ i → mEl recs (x.toInt.toNat - 1) i b r n = mEl recs (x.toInt.toNat - 1) i 0 0 recs.length) → AT 10 0 0 σ0 z [(0, .ref 15), (1, .int x), (2, .int i), (3, .int u), (4, .int v)] [] := by
    intro n
    induction n with
    | zero =>
      intro r b u v hu hv hrn hm
      subst hu
      subst hv
      refine step [(10, [0, 1, 2, 3, 4]), (58, [0, 1, 2, 3, 4])] 5 ?_
      refine ⟨fun g => ?_, fun g => ?_⟩
      · by_cases hh : isR recs.length x = true ∧ 0 ≤ i
        · rw [if_pos hh, ← hm hh] at hK
          exact hK
        · rw [if_neg hh] at hK
          exact hK
      · rw [hd0.1, nI_ltI (by omega) (by omega)] at g
        omega
    | succ n ih =>
      intro r b u v hu hv hrn hm
      subst hu
      subst hv
      refine step [(10, [0, 1, 2, 3, 4]), (58, [0, 1, 2, 3, 4]), (64, [])] 5 ?_
      refine ⟨fun g => ?_, fun g => ⟨fun g2 => ?_, fun g2 => ?_⟩⟩
      · rw [hd0.1, nI_ltI (by omega) (by omega)] at g
        omega
      · refine c64 (Or.inl (fun q => ?_))
        rw [Int32.lt_iff_toInt_lt] at g2
        have := q.2
        rw [Int32.le_iff_toInt_le] at this
        omega
      · refine t_misRecord hX hd0 hl ?_
        refine ⟨fun g3 => ?_, fun g3 => ?_⟩
        · rw [b2i_0] at g3
          exact c64 (Or.inl (fun q => by rw [g3] at q; exact absurd q.1 (by decide)))
        · rw [b2i_0] at g3
          have g3 := (Bool.not_eq_false _).mp g3
          have hh : isR recs.length x = true ∧ 0 ≤ i := ⟨g3, by rw [Int32.le_iff_toInt_le]; rw [Int32.lt_iff_toInt_lt] at g2; omega⟩
          have hm := hm hh
          obtain ⟨a, ha, rfl⟩ := isR_t (by omega) g3
          rw [nI_toInt (by omega), show ((a + 1 : Nat) : Int).toNat - 1 = a by omega] at hm ih
          rw [if_pos hh, nI_toInt (by omega), show ((a + 1 : Nat) : Int).toNat - 1 = a by omega] at hK
          rw [mEl] at hm
          have nxt : ∀ (b' : Nat) (u : Int32), u = nI b' → mEl recs a i b' (r + 1) n = mEl recs a i 0 0 recs.length → AT 58 0 0 σ0 z [(0, .ref 15), (1, .int (nI (a + 1))), (2, .int i), (3, .int u), (4, .int (nI (r + 1)))] [] := by
            intro b' u hu hm'
            refine step [(10, [0, 1, 2, 3, 4])] 5 ?_
            exact ih (r + 1) b' u _ hu (nI_add (r + 1) 1) (by omega) (fun _ => hm')
          refine ⟨fun g4 => ?_, fun g4 => ?_⟩
          · have g4 := (nI_eq (by omega) (by omega)).mp g4
            rw [if_neg (fun q => q.1 (by omega))] at hm
            exact nxt b _ rfl hm
          · have g4 : ¬ r = a := fun q => g4 (by rw [q])
            refine t_morder hX hr hk hd0 hk0 (a := r + 1) (b := a + 1) (by omega) (by omega) (fun r' h1 h2 => ?_)
            have ea : kOf key recs (r + 1) = kyO recs r := by unfold kOf; rw [if_neg (by omega)]; rfl
            have eb : kOf key recs (a + 1) = kyO recs a := by unfold kOf; rw [if_neg (by omega)]; rfl
            rw [ea, eb] at h1 h2
            refine ⟨fun g5 => ?_, fun g5 => ?_⟩
            · rw [h2] at g5
              rw [if_neg (fun q => g5 q.2)] at hm
              exact nxt b _ rfl hm
            · rw [h2] at g5
              rw [if_pos ⟨g4, g5⟩] at hm
              refine ⟨fun g6 => ?_, fun g6 => ?_⟩
              · rw [if_neg g6] at hm
                exact nxt (b + 1) _ (nI_add b 1) hm
              · rw [if_pos g6] at hm
                rw [← hm] at hK
                exact hK
  refine step [(10, [0, 1, 2, 3, 4])] 5 ?_
  show AT 10 0 0 (a_up σ 15 0 (nI 0)) z [(0, .ref 15), (1, .int x), (2, .int i), (3, .int (nI 0)), (4, .int (nI 1))] []
  rw [hσ]
  exact loop recs.length 0 0 _ _ rfl rfl (Nat.zero_add _) (fun _ => rfl)
theorem t_mnumber (hX : a_okX X) {nm : List (Nat × Bool × Nat)} (hn : dN σ nm) (hnl : nm.length ≤ 40) {i k : Int32} (hK : K (a_up σ 15 0 (nI 0)) z (some (.int (mNu nm i k)))) : a_Meets X ad (a_LL ns) mX8_number σ z [.ref 15, .int i, .int k] K := by
  refine a_Meets.of hX oX8_number (al0 := [(0, .ref 15), (1, .int i), (2, .int k)]) rfl rfl (fun AT step => ?_)
  have hn0 := dN_0 (v := nI 0) hn
  unfold mNu at hK
  refine step [] 6 ?_
  refine ⟨fun g => ?_, fun g => ⟨fun g2 => ?_, fun g2 => ?_⟩⟩
  · rw [Int32.lt_iff_toInt_lt] at g
    simp at g
    rw [if_neg (by omega)] at hK
    exact hK
  · rw [hn0.1] at g2
    obtain ⟨j, hj, rfl⟩ := nI_of g
    rw [nI_ltI (by omega) (by omega)] at g2
    rw [nI_toInt hj, if_pos (by omega), Int.toNat_natCast] at hK
    have hj2 := hn0.2 j g2
    refine ⟨fun k0 => ⟨fun k1 => ⟨fun k2 => ?_, fun k2 => ?_⟩, fun k1 => ?_⟩, fun k0 => ?_⟩
    · rw [if_neg (show ¬ k = nI 0 from k0), if_neg k1, if_neg k2] at hK
      exact hK
    · rw [if_neg (show ¬ k = nI 0 from k0), if_neg k1, if_pos k2] at hK
      refine ⟨j, ⟨by omega, by omega, rfl⟩, ?_⟩
      show K _ _ (some (.int (a_up σ 15 0 (nI 0) 23 j)))
      rw [hj2.2.2]
      exact hK
    · rw [if_neg (show ¬ k = nI 0 from k0), if_pos k1] at hK
      refine ⟨j, ⟨by omega, by omega, rfl⟩, ?_⟩
      show K _ _ (some (.int (a_up σ 15 0 (nI 0) 22 j)))
      rw [hj2.2.1]
      exact hK
    · rw [if_pos (show k = nI 0 from k0)] at hK
      refine ⟨j, ⟨by omega, by omega, rfl⟩, ?_⟩
      show K _ _ (some (.int (a_up σ 15 0 (nI 0) 21 j)))
      rw [hj2.1]
      exact hK
  · rw [hn0.1, Int32.lt_iff_toInt_lt, nI_toInt (by omega)] at g2
    rw [if_neg (by omega)] at hK
    exact hK
theorem t_mat (hX : a_okX X) (hk : dK σ key) (hkb : kb key) {i : Int32} (hT : ∀ j, j < key.length → i = nI j → K (a_up σ 15 0 (nI 0)) z (some (.int (nI (key.getD j 0))))) (hF : (¬ ∃ j, j < key.length ∧ i = nI j) → K (a_up (a_up σ 15 0 (nI 0)) 15 0 (nI 1)) z (some (.int (nI 0)))) : a_Meets X ad (a_LL ns) mX8_at σ z [.ref 15, .int i] K := by
  have hl := hkb.1
  refine a_Meets.of hX oX8_at (al0 := [(0, .ref 15), (1, .int i)]) rfl rfl (fun AT step => ?_)
  have hk0 := dK_0 (v := nI 0) hk
  refine step [] 6 ?_
  refine ⟨fun g => hF ?_, fun g => ⟨fun g2 => ?_, fun g2 => hF ?_⟩⟩
  · rintro ⟨j, hj, rfl⟩
    exact nI_pos (by omega) g
  · rw [hk0.1] at g2
    obtain ⟨j, hj, rfl⟩ := nI_of g
    rw [nI_ltI (by omega) (by omega)] at g2
    refine ⟨j, ⟨by omega, by omega, rfl⟩, ?_⟩
    show K _ _ (some (.int (a_up σ 15 0 (nI 0) 20 j)))
    rw [hk0.2 j g2]
    exact hT j g2 rfl
  · rintro ⟨j, hj, rfl⟩
    rw [hk0.1, nI_ltI (by omega) (by omega)] at g2
    exact g2 hj
theorem t_mthrown (hX : a_okX X) (hK : K σ z (some (.int (σ 15 0)))) : a_Meets X ad (a_LL ns) mX8_thrown σ z [.ref 15] K := by
  refine a_Meets.of hX oX8_thrown (al0 := [(0, .ref 15)]) rfl rfl (fun AT step => ?_)
  refine step [] 5 ?_
  exact hK
theorem t_mtitle (hX : a_okX X) {c : Int32} {n : Nat} (hn : n ≤ 80) (h1 : σ 15 2 = nI n) (hK : K (if n < 80 then a_up (a_up (a_up σ 15 0 (nI 0)) 16 n (sb_b (tb c))) 15 2 (nI (n + 1)) else a_up σ 15 0 (nI 0)) z none) : a_Meets X ad (a_LL ns) mX8_title σ z [.ref 15, .int c] K := by
  refine a_Meets.of hX oX8_title (al0 := [(0, .ref 15), (1, .int c)]) rfl rfl (fun AT step => ?_)
  have e1 : a_up σ 15 0 (nI 0) 15 2 = nI n := by simp [a_up, h1]
  refine step [] 6 ?_
  refine ⟨fun g => ?_, fun g => ?_⟩
  · rw [e1, nI_leI (by omega) (by omega)] at g
    rw [if_neg (by omega)] at hK
    exact hK
  · rw [e1, nI_leI (by omega) (by omega)] at g
    rw [if_pos (by omega)] at hK
    refine ⟨n, ⟨by omega, by omega, e1⟩, ?_⟩
    show K _ _ _
    rw [tb_b, show a_up (a_up σ 15 0 (nI 0)) 16 n (sb_b (tb c)) 15 2 + nI 1 = nI (n + 1) by simp [a_up, h1, nI_add]]
    exact hK
theorem t_mlanguage (hX : a_okX X) {c : Int32} (hT : ∀ j, j < 4 → c = nI j → K (a_up (a_up σ 15 0 (nI 0)) 15 4 (nI j)) z (some (.int (σ 15 4)))) (hF : (¬ ∃ j, j < 4 ∧ c = nI j) → K (a_up σ 15 0 (nI 0)) z (some (.int (-1)))) :
    a_Meets X ad (a_LL ns) mX8_language σ z [.ref 15, .int c] K := by
  refine a_Meets.of hX oX8_language (al0 := [(0, .ref 15), (1, .int c)]) rfl rfl (fun AT step => ?_)
  refine step [] 6 ?_
  refine ⟨fun g => hF ?_, fun g0 => ⟨fun g => ?_, fun g => hF ?_⟩⟩
  · rintro ⟨j, hj, rfl⟩
    exact nI_pos (by omega) g
  · obtain ⟨j, hj, rfl⟩ := nI_of g0
    rw [nI_leI (by omega) (by omega)] at g
    exact hT j (by omega) rfl
  · rintro ⟨j, hj, rfl⟩
    rw [nI_leI (by omega) (by omega)] at g
    omega
theorem t_mroman (hX : a_okX X) {b b0 : Bool} (h1 : σ 15 5 = b2i b0) (hK : K (a_up (a_up σ 15 0 (nI 0)) 15 5 (b2i b)) z (some (.int (b2i b0)))) : a_Meets X ad (a_LL ns) mX8_roman σ z [.ref 15, .int (b2i b)] K := by
  refine a_Meets.of hX oX8_roman (al0 := [(0, .ref 15), (1, .int (b2i b))]) rfl rfl (fun AT step => ?_)
  refine step [] 6 ?_
  refine ⟨b2i_01 b, ?_⟩
  show a_bl (a_up σ 15 0 (nI 0) 15 5) (K _ _ (some (.int (a_up σ 15 0 (nI 0) 15 5))))
  rw [show a_up σ 15 0 (nI 0) 15 5 = b2i b0 by simp [a_up, h1]]
  exact ⟨b2i_01 b0, hK⟩
theorem t_mskip (hX : a_okX X) {c : Int32} {n : Nat} (hn : n ≤ 80) (h1 : σ 15 2 = nI n) (hT : ∀ j, j ≤ n → c = nI j → K (a_up (a_up σ 15 0 (nI 0)) 15 3 (nI j)) z (some (.int 1))) (hF : (¬ ∃ j, j ≤ n ∧ c = nI j) → K (a_up σ 15 0 (nI 0)) z (some (.int 0))) :
    a_Meets X ad (a_LL ns) mX8_skip σ z [.ref 15, .int c] K := by
  refine a_Meets.of hX oX8_skip (al0 := [(0, .ref 15), (1, .int c)]) rfl rfl (fun AT step => ?_)
  have e1 : a_up σ 15 0 (nI 0) 15 2 = nI n := by simp [a_up, h1]
  refine step [] 6 ?_
  refine ⟨fun g => ?_, fun g0 => ⟨fun g => ?_, fun g => ?_⟩⟩
  · refine ⟨Or.inl rfl, hF ?_⟩
    rintro ⟨j, hj, rfl⟩
    exact nI_pos (by omega) g
  · obtain ⟨j, hj, rfl⟩ := nI_of g0
    rw [e1, nI_leI (by omega) (by omega)] at g
    exact ⟨Or.inr rfl, hT j g rfl⟩
  · refine ⟨Or.inl rfl, hF ?_⟩
    rintro ⟨j, hj, rfl⟩
    rw [e1, nI_leI (by omega) (by omega)] at g
    exact g hj
/-- what mark does: the mark, IGNORED or a SPACE -/
def mMk (c s : Int32) : Bool := cM c && (decide (s = nI 0) || decide (s = nI 1))
theorem mMk_t {c s : Int32} (h : mMk c s = true) : cM c = true ∧ ∃ b : Bool, s = b2i b := by
  simp [mMk] at h
  refine ⟨h.1, ?_⟩
  rcases h.2 with q | q
  · exact ⟨false, q⟩
  · exact ⟨true, q⟩
theorem cM_at {c : Int32} (h : cM c = true) : 33 ≤ c.toInt ∧ c.toInt ≤ 126 ∧ c = nI c.toInt.toNat := by
  have h2 : 33 ≤ c.toInt ∧ c.toInt ≤ 126 := by simp [cM] at h; omega
  refine ⟨h2.1, h2.2, ?_⟩
  apply Int32.toInt_inj.mp
  rw [nI_toInt (by omega)]
  omega
theorem t_mmark (hX : a_okX X) {c s : Int32} {f : Nat → Bool} (hf : ∀ j, j < 127 → σ 17 j = b2i (f j)) (hT : mMk c s = true → K (a_up (a_up σ 15 0 (nI 0)) 17 c.toInt.toNat s) z (some (.int (b2i (f c.toInt.toNat))))) (hF : mMk c s = false → K (a_up σ 15 0 (nI 0)) z (some (.int (-1)))) : a_Meets X ad (a_LL ns) mX8_mark σ z [.ref 15, .int c, .int s] K := by
  refine a_Meets.of hX oX8_mark (al0 := [(0, .ref 15), (1, .int c), (2, .int s)]) rfl rfl (fun AT step => ?_)
  have c33 : mMk c s = false → AT 33 0 0 (a_up σ 15 0 (nI 0)) z [] [] := by
    intro h
    refine step [] 5 ?_
    exact hF h
  refine step [(33, []), (35, [0, 1, 2])] 6 ?_
  refine ⟨fun g => ?_, fun g => ⟨fun g2 => ?_, fun g2 => ?_⟩⟩
  · simp (disch := decide) only [Int32.lt_iff_toInt_lt, nI_toInt] at g
    exact c33 (by simp [mMk, cM]; omega)
  · simp (disch := decide) only [Int32.lt_iff_toInt_lt, nI_toInt] at g2
    exact c33 (by simp [mMk, cM]; omega)
  · simp (disch := decide) only [Int32.lt_iff_toInt_lt, nI_toInt] at g g2
    refine t_X8_isWord hX ?_
    refine ⟨fun g3 => ?_, fun g3 => ?_⟩
    · rw [b2i_0] at g3
      have g3 := (Bool.not_eq_false _).mp g3
      refine c33 ?_
      have : cM c = false := by
        simp only [cM]
        cases h1 : cL c with
        | true => simp
        | false => rw [h1] at g3; simp at g3; simp [g3]
      simp [mMk, this]
    · rw [b2i_0] at g3
      have hcm : cM c = true := by
        simp at g3
        simp [cM, g3.1, g3.2]
        omega
      obtain ⟨q1, q2, q3⟩ := cM_at hcm
      refine ⟨fun g4 => ?_, fun g4 => ⟨fun g5 => ?_, fun g5 => ?_⟩⟩
      · refine c33 ?_
        rw [Int32.lt_iff_toInt_lt] at g4
        have n0 : ¬ s = nI 0 := fun e => by rw [e] at g4; exact absurd g4 (by decide)
        have n1 : ¬ s = nI 1 := fun e => by rw [e] at g4; exact absurd g4 (by decide)
        simp [mMk, n0, n1]
      · obtain ⟨j, hj, rfl⟩ := nI_of g4
        rw [nI_leI (by omega) (by omega)] at g5
        have hmm : mMk c (nI j) = true := by
          have : j = 0 ∨ j = 1 := by omega
          rcases this with e | e <;> simp [mMk, hcm, e]
        obtain ⟨-, b, hb⟩ := mMk_t hmm
        have hT := hT hmm
        have f17 : a_up σ 15 0 (nI 0) 17 c.toInt.toNat = b2i (f c.toInt.toNat) := by simp only [a_up, if_false, show (17 : Nat) ≠ 15 by decide]; exact hf _ (by omega)
        have c65 : ∀ (u v : Int32), u = b2i (f c.toInt.toNat) → v = nI j → AT 65 0 0 (a_up σ 15 0 (nI 0)) z [(3, .int u)] [.int v, .int c, .ref 17] := by
          intro u v hu hv
          refine step [] 5 ?_
          refine ⟨c.toInt.toNat, ⟨by omega, by omega, q3⟩, ?_⟩
          show K _ _ _
          rw [hv, hb, b2i_nar, hu, ← hb]
          exact hT
        have c49 : ∀ (u : Int32), u = b2i (f c.toInt.toNat) → AT 49 0 0 (a_up σ 15 0 (nI 0)) z [(0, .ref 15), (1, .int c), (2, .int (nI j))] [.int u] := by
          intro u hu
          refine step [(65, [3])] 5 ?_
          refine ⟨fun g6 => ?_, fun g6 => ?_⟩
          · have g6 : ¬ j = 1 := fun e => g6 (by rw [e])
            exact c65 _ _ hu (by rw [show j = 0 by omega])
          · have g6 := (nI_eq (by omega) (by omega)).mp g6
            exact c65 _ _ hu (by rw [g6])
        have c35 : AT 35 0 0 (a_up σ 15 0 (nI 0)) z [(0, .ref 15), (1, .int c), (2, .int (nI j))] [] := by
          refine step [(49, [0, 1, 2])] 5 ?_
          refine ⟨c.toInt.toNat, ⟨by omega, by omega, q3⟩, ?_⟩
          refine ⟨fun g6 => ?_, fun g6 => ?_⟩
          · rw [f17, b2i_0] at g6
            exact c49 _ (by rw [g6]; rfl)
          · rw [f17, b2i_0] at g6
            exact c49 _ (by rw [(Bool.not_eq_false _).mp g6]; rfl)
        exact c35
      · refine c33 ?_
        have n0 : ¬ s = nI 0 := fun e => by rw [e] at g5; exact g5 (by decide)
        have n1 : ¬ s = nI 1 := fun e => by rw [e] at g5; exact g5 (by decide)
        simp [mMk, n0, n1]
theorem t_cmark (hX : a_okX X) {c s : Int32} {f : Nat → Bool} (hf : ∀ j, j < 127 → σ 4 j = b2i (f j)) (hT : mMk c s = true → K (a_up σ 4 c.toInt.toNat s) z (some (.int (b2i (f c.toInt.toNat))))) (hF : mMk c s = false → K σ z (some (.int (-1)))) : a_Meets X ad (a_LL ns) mX7_mark σ z [.ref 0, .int c, .int s] K := by
  refine a_Meets.of hX oX7_mark (al0 := [(0, .ref 0), (1, .int c), (2, .int s)]) rfl rfl (fun AT step => ?_)
  have c16 : mMk c s = false → AT 16 0 0 σ z [] [] := by
    intro h
    refine step [] 5 ?_
    exact hF h
  refine step [(16, []), (18, [0, 1, 2])] 6 ?_
  refine t_X7_isMark hX ?_
  refine ⟨fun g3 => ?_, fun g3 => ?_⟩
  · rw [b2i_0] at g3
    exact c16 (by simp [mMk, g3])
  · rw [b2i_0] at g3
    have hcm := (Bool.not_eq_false _).mp g3
    obtain ⟨q1, q2, q3⟩ := cM_at hcm
    refine ⟨fun g4 => ?_, fun g4 => ⟨fun g5 => ?_, fun g5 => ?_⟩⟩
    · refine c16 ?_
      rw [Int32.lt_iff_toInt_lt] at g4
      have n0 : ¬ s = nI 0 := fun e => by rw [e] at g4; exact absurd g4 (by decide)
      have n1 : ¬ s = nI 1 := fun e => by rw [e] at g4; exact absurd g4 (by decide)
      simp [mMk, n0, n1]
    · obtain ⟨j, hj, rfl⟩ := nI_of g4
      rw [nI_leI (by omega) (by omega)] at g5
      have hmm : mMk c (nI j) = true := by
        have : j = 0 ∨ j = 1 := by omega
        rcases this with e | e <;> simp [mMk, hcm, e]
      obtain ⟨-, b, hb⟩ := mMk_t hmm
      have hT := hT hmm
      have c50 : ∀ (u v : Int32), u = b2i (f c.toInt.toNat) → v = nI j → AT 50 0 0 σ z [(3, .int u)] [.int v, .int c, .ref 3] := by
        intro u v hu hv
        refine step [] 5 ?_
        rw [hv, hb]
        refine t_X2_take hX hcm ?_
        show K _ _ _
        rw [hu, ← hb]
        exact hT
      have c34 : ∀ (u : Int32), u = b2i (f c.toInt.toNat) → AT 34 0 0 σ z [(0, .ref 0), (1, .int c), (2, .int (nI j))] [.int u] := by
        intro u hu
        refine step [(50, [3])] 5 ?_
        refine ⟨fun g6 => ?_, fun g6 => ?_⟩
        · have g6 : ¬ j = 1 := fun e => g6 (by rw [e])
          exact c50 _ _ hu (by rw [show j = 0 by omega])
        · have g6 := (nI_eq (by omega) (by omega)).mp g6
          exact c50 _ _ hu (by rw [g6])
      have c18 : AT 18 0 0 σ z [(0, .ref 0), (1, .int c), (2, .int (nI j))] [] := by
        refine step [(34, [0, 1, 2])] 5 ?_
        refine t_X2_isSpace hX (f := f) hf ?_
        rw [hcm, Bool.true_and]
        refine ⟨fun g6 => ?_, fun g6 => ?_⟩
        · rw [b2i_0] at g6
          exact c34 _ (by rw [g6]; rfl)
        · rw [b2i_0] at g6
          exact c34 _ (by rw [(Bool.not_eq_false _).mp g6]; rfl)
      exact c18
    · refine c16 ?_
      have n0 : ¬ s = nI 0 := fun e => by rw [e] at g5; exact g5 (by decide)
      have n1 : ¬ s = nI 1 := fun e => by rw [e] at g5; exact g5 (by decide)
      simp [mMk, n0, n1]
theorem t_ctitle (hX : a_okX X) {c : Int32} {n : Nat} (hn : n ≤ 80) (h1 : σ 1 1 = nI n) (hK : K (if n < 80 then a_up (a_up σ 2 n (nI (tb c))) 1 1 (nI (n + 1)) else σ) z none) : a_Meets X ad (a_LL ns) mX7_title σ z [.ref 0, .int c] K := by
  refine a_Meets.of hX oX7_title (al0 := [(0, .ref 0), (1, .int c)]) rfl rfl (fun AT step => ?_)
  refine step [] 5 ?_
  show a_Meets _ _ _ _ _ _ [.ref 1, .int (c &&& nI 255)] _
  rw [tb_and]
  refine t_X5_collect hX hn h1 ?_
  rw [nar_ch _ (tb_lt c)]
  exact hK
theorem t_cskip (hX : a_okX X) {c : Int32} {n : Nat} (hn : n ≤ 80) (h1 : σ 1 1 = nI n) (hT : ∀ j, j ≤ n → c = nI j → K (a_up σ 1 2 (nI j)) z (some (.int 1))) (hF : (¬ ∃ j, j ≤ n ∧ c = nI j) → K σ z (some (.int 0))) :
    a_Meets X ad (a_LL ns) mX7_skip σ z [.ref 0, .int c] K := by
  refine a_Meets.of hX oX7_skip (al0 := [(0, .ref 0), (1, .int c)]) rfl rfl (fun AT step => ?_)
  refine step [] 5 ?_
  refine t_X5_leaveOut hX hn h1 (fun j h2 h3 => ?_) (fun h2 => ?_)
  · exact ⟨Or.inr rfl, hT j h2 h3⟩
  · exact ⟨Or.inl rfl, hF h2⟩
theorem t_cnumber (hX : a_okX X) {nm : List (Nat × Bool × Nat)} (hn : cN σ nm) (hnl : nm.length ≤ 40) {i k : Int32} (hK : K σ z (some (.int (mNu nm i k)))) : a_Meets X ad (a_LL ns) mX7_number σ z [.ref 0, .int i, .int k] K := by
  refine a_Meets.of hX oX7_number (al0 := [(0, .ref 0), (1, .int i), (2, .int k)]) rfl rfl (fun AT step => ?_)
  refine step [] 5 ?_
  exact t_tell hX hn hnl hK
theorem kyO_app {x : Nat × List Nat} {r : Nat} : kyO (recs ++ [x]) r = if r = recs.length then x.2 else kyO recs r := by
  unfold kyO
  rw [getD_app]
  split <;> rfl
theorem rkO_app {x : Nat × List Nat} {r : Nat} : rkO (recs ++ [x]) r = if r = recs.length then x.1 else rkO recs r := by
  unfold rkO
  rw [getD_app]
  split <;> rfl
theorem t_madd (hX : a_okX X) (hr : rOK recs) (hk : kb key) (hd : dR σ recs) (hdk : dK σ key) {c : Int32} (hT : ∀ j, j < 4 → c = nI j → recs.length < 60 → ∀ σ', dR σ' (recs ++ [(j, key)]) → σ' 15 0 = nI 0 → (∀ q, q ≠ 15 → (q < 24 ∨ 26 < q) → σ' q = σ q) → (∀ i, i ≠ 0 → i ≠ 16 → σ' 15 i = σ 15 i) → K σ' z (some (.int (nI (recs.length + 1))))) (hF : (¬ ((∃ j, j < 4 ∧ c = nI j) ∧ recs.length < 60)) → K (a_up σ 15 0 (nI 0)) z (some (.int (nI 0)))) :
    a_Meets X ad (a_LL ns) mX8_add σ z [.ref 15, .int c] K := by
  have hl := hr.1
  have hkl := hk.1
  refine a_Meets.of hX oX8_add (al0 := [(0, .ref 15), (1, .int c)]) rfl rfl (fun AT step => ?_)
  have c23 : (¬ ((∃ j, j < 4 ∧ c = nI j) ∧ recs.length < 60)) → AT 23 0 0 (a_up σ 15 0 (nI 0)) z [] [] := by
    intro h
    refine step [] 5 ?_
    exact hF h
  have e16 : a_up σ 15 0 (nI 0) 15 16 = nI recs.length := by simp [a_up, hd.1]
  refine step [(23, []), (25, [0, 1])] 6 ?_
  refine ⟨fun g => c23 ?_, fun g => ⟨fun g2 => c23 ?_, fun g2 => ⟨fun g3 => ?_, fun g3 => c23 ?_⟩⟩⟩
  · rintro ⟨⟨j, hj, rfl⟩, -⟩
    exact nI_pos (by omega) g
  · rintro ⟨⟨j, hj, rfl⟩, -⟩
    rw [nI_ltI (by omega) (by omega)] at g2
    omega
  · obtain ⟨j, hj, rfl⟩ := nI_of g
    rw [nI_ltI (by omega) (by omega)] at g2
    rw [e16] at g3
    have g3 : ¬ recs.length = 60 := fun e => g3 (by rw [e])
    have hT := hT j (by omega) rfl (by omega)
    -- copying
    have loop : ∀ (n i : Nat) (x : Int32) (σ1 : aS), x = nI i → i + n = key.length → σ1 15 0 = nI 0 → σ1 15 16 = nI (recs.length + 1) → (∀ q, q ≠ 15 → (q < 24 ∨ 26 < q) → σ1 q = σ q) → (∀ i, i ≠ 0 → i ≠ 16 → σ1 15 i = σ 15 i) → (∀ r, σ1 25 r = if r = recs.length + 1 then nI key.length else σ 25 r) → (∀ r, σ1 26 r = if r = recs.length + 1 then nI j else σ 26 r) → (∀ u, u < 400 * (recs.length + 1) → σ1 24 u = σ 24 u) → (∀ u, u < i → σ1 24 (400 * (recs.length + 1) + u) = nI (key.getD u 0)) → AT 60 0 0 σ1 z [(0, .ref 15), (2, .int x)] [] := by
      intro n
      induction n with
      | zero =>
        intro i x σ1 hx hi s0 s16 f1 f2 f25 f26 f24 hc
        subst hx
        have ek : σ1 15 11 = nI key.length := by rw [f2 11 (by decide) (by decide)]; exact hdk.1
        refine step [(60, [0, 2])] 5 ?_
        refine ⟨fun g => ?_, fun g => ?_⟩
        · show K _ _ (some (.int (σ1 15 16)))
          rw [s16]
          refine hT σ1 ⟨by rw [s16]; simp, fun r hr2 => ?_⟩ s0 f1 f2
          simp only [List.length_append, List.length_singleton] at hr2
          rw [kyO_app, rkO_app, f25, f26]
          by_cases e : r = recs.length
          · subst e
            rw [if_pos rfl, if_pos rfl, if_pos rfl, if_pos rfl]
            exact ⟨rfl, rfl, fun u hu => hc u (by have hu : u < key.length := hu; omega)⟩
          · rw [if_neg e, if_neg (by omega), if_neg e, if_neg (by omega)]
            have hdr := hd.2 r (by omega)
            have hlr := (hr.2 r (by omega)).2.1
            exact ⟨hdr.1, hdr.2.1, fun u hu => by rw [f24 _ (by omega)]; exact hdr.2.2 u hu⟩
        · rw [ek, nI_leI (by omega) (by omega)] at g
          omega
      | succ n ih =>
        intro i x σ1 hx hi s0 s16 f1 f2 f25 f26 f24 hc
        subst hx
        have ek : σ1 15 11 = nI key.length := by rw [f2 11 (by decide) (by decide)]; exact hdk.1
        have eb : σ1 20 i = nI (key.getD i 0) := by rw [f1 20 (by decide) (by omega)]; exact hdk.2 i (by omega)
        have hb := kb_at hk i
        refine step [(60, [0, 2])] 5 ?_
        refine ⟨fun g => ?_, fun g => ?_⟩
        · rw [ek, nI_leI (by omega) (by omega)] at g
          omega
        · refine ⟨i, ⟨by omega, by omega, rfl⟩, 400 * (recs.length + 1) + i, ⟨by omega, by omega, by rw [s16, pk_mul, nI_add]⟩, ?_⟩
          refine ih (i + 1) _ _ (nI_add i 1) (by omega) (by simp [a_up, s0]) (by simp [a_up, s16]) (fun q q1 q2 => by rw [a_up_ne (by omega)]; exact f1 q q1 q2) (fun q q1 q2 => by rw [a_up_ne (by decide)]; exact f2 q q1 q2) (fun r => by rw [a_up_ne (by decide)]; exact f25 r) (fun r => by rw [a_up_ne (by decide)]; exact f26 r) (fun u hu => ?_) (fun u hu => ?_)
          · simp only [a_up, if_true]
            rw [if_neg (by omega)]
            exact f24 u hu
          · simp only [a_up, if_true]
            by_cases e : u = i
            · rw [if_pos (by omega), eb, e]
              have hbb : ∀ n, n < 128 → vp_nar .byte (nI n) = nI n := by decide +kernel
              exact hbb _ hb
            · rw [if_neg (by omega)]
              exact hc u (by omega)
    have c25 : AT 25 0 0 (a_up σ 15 0 (nI 0)) z [(0, .ref 15), (1, .int (nI j))] [] := by
      refine step [(60, [0, 2])] 5 ?_
      have e1 : a_up σ 15 0 (nI 0) 15 16 + nI 1 = nI (recs.length + 1) := by rw [e16, nI_add]
      refine ⟨recs.length + 1, ⟨by omega, by omega, ?_⟩, recs.length + 1, ⟨by omega, by omega, ?_⟩, ?_⟩
      · simp only [a_up, if_true]
        exact e1
      · simp only [a_up, if_true]
        exact e1
      · refine loop key.length 0 _ _ rfl (Nat.zero_add _) (by simp [a_up]) ?_ (fun q q1 q2 => by rw [a_up_ne (by omega), a_up_ne (by omega), a_up_ne q1, a_up_ne q1]) (fun q q1 q2 => by simp [a_up, q1, q2]) (fun r => ?_) (fun r => ?_) (fun u hu => by simp [a_up]) (fun u hu => by omega)
        · simp only [a_up, if_true, if_false, show (15 : Nat) ≠ 25 by decide, show (15 : Nat) ≠ 26 by decide]
          exact e1
        · simp [a_up, hdk.1]
        · simp [a_up]
    exact c25
  · rintro ⟨-, h2⟩
    rw [e16] at g3
    have := (nI_eq (by omega) (by omega)).mp g3
    omega
end Mo
