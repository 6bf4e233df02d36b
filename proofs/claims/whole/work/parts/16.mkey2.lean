section MK2
variable {X : aX} {ad : Nat → Nat} {ns : List Nat} {σ : aS} {z : aZ} {K : aS → aZ → Option Value → Prop}
theorem t_X8_key (hX : a_okX X) {l : List Nat} {left lang : Nat} {rom : Bool} {sp : Nat → Bool} (hl : l.length ≤ 80) (hle : left ≤ l.length) (hc : ∀ x ∈ l, x < 256) (hlang : lang < 4) (h1 : σ 15 2 = nI l.length) (h2 : σ 15 3 = nI left) (h3 : ∀ j, j < l.length → σ 16 j = sb_b (l.getD j 0)) (h4 : ∀ j, j < 127 → σ 17 j = b2i (sp j)) (h8 : σ 15 4 = nI lang) (h9 : σ 15 5 = b2i rom)
    (hK : ∀ σ', σ' 15 2 = nI 0 → σ' 15 3 = nI 0 → σ' 15 0 = nI 0 → dK σ' (mKey l left lang rom sp).1 → dN σ' (mKey l left lang rom sp).2 → (∀ q, q ≠ 15 → q ≠ 18 → q ≠ 19 → (q < 20 ∨ 23 < q) → σ' q = σ q) → (∀ i, i ≠ 0 → i ≠ 2 → i ≠ 3 → i ≠ 9 → i ≠ 11 → i ≠ 15 → i ≠ 22 → σ' 15 i = σ 15 i) → K σ' z (some (.int (nI (mKey l left lang rom sp).1.length)))) : a_Meets X ad (a_LL ns) mX8_key σ z [.ref 15] K := by
  have hw : wOK (sSplit sp (l.drop left)) := wOK_split (by simp; omega) (fun x hx => hc x (List.mem_of_mem_drop hx))
  unfold mKey at hK
  refine a_Meets.of hX oX8_key (al0 := [(0, .ref 15)]) rfl rfl (fun AT step => ?_)
  have c0 : ∀ σ0 : aS, σ0 = a_up σ 15 0 (nI 0) → a_Meets X ad (a_LL ns) mX8_split σ0 z [.ref 15] (fun σ' z' r => a_run X ad (a_LL ns) mX8_key K AT [(45, [0]), (46, [0]), (49, [0, 2])] (a_jmp X ad (a_LL ns) mX8_key K pX8_key AT [(45, [0]), (46, [0]), (49, [0, 2])] 6) (a_suf pX8_key 0 9) 9 0 0 σ' z' [(0, .ref 15)] (a_ps r [])) := by
    intro σ0 e0
    have g0 : ∀ q, q ≠ 15 → σ0 q = σ q := fun q hq => by rw [e0, a_up_ne hq]
    have g1 : ∀ i, i ≠ 0 → σ0 15 i = σ 15 i := fun i hi => by rw [e0]; simp [a_up, hi]
    have g2 : σ0 15 0 = nI 0 := by rw [e0]; simp [a_up]
    refine t_X8_split hX hl hle hc (by rw [g1 2 (by decide)]; exact h1) (by rw [g1 3 (by decide)]; exact h2) (fun j hj => by rw [g0 16 (by decide)]; exact h3 j hj) (fun j hj => by rw [g0 17 (by decide)]; exact h4 j hj) (fun σ1 r1 f1 f1' => ?_)
    generalize sSplit sp (l.drop left) = S at hK hw r1
    have hBs := Bs_240 hw
    have hwl := hw.2.1
    -- the state at the first word
    obtain ⟨σ2, e2⟩ : ∃ s2, s2 = a_up (a_up σ1 15 11 (nI 0)) 15 15 (nI 0) := ⟨_, rfl⟩
    have m2 : mF σ1 σ2 := by
      rw [e2]
      exact ⟨fun q q1 _ => by rw [a_up_ne q1, a_up_ne q1], fun i q1 q2 _ => by simp [a_up, q1, q2]⟩
    have r2 : rF σ2 S := rF_of m2 r1
    have k2 : dK σ2 [] := by rw [e2]; exact ⟨by simp [a_up], fun j hj => by simp at hj⟩
    have n2 : dN σ2 [] := by rw [e2]; exact ⟨by simp [a_up], fun j hj => by simp at hj⟩
    have loop : ∀ (n w : Nat) (x : Int32) (a : List Nat × List (Nat × Bool × Nat)) (σ3 : aS), x = nI w → w + n = S.2.1.length → dK σ3 a.1 → dN σ3 a.2 → a.1.length + Bs S.2.1 w n ≤ 240 → a.2.length ≤ w → mF σ2 σ3 → kf rom (fun j => S.1.getD j 0) S.2.1 w n a = kf rom (fun j => S.1.getD j 0) S.2.1 (mFirst left lang S) (S.2.1.length - mFirst left lang S) ([], []) → AT 49 0 0 σ3 z [(0, .ref 15), (2, .int x)] [] := by
      intro n
      induction n with
      | zero =>
        intro w x a σ3 hx hwn ck cn hb hnl f3 hkf
        subst hx
        have f5 : σ3 15 9 = nI S.2.1.length := (rF_of f3 r2).1
        refine step [(49, [0, 2])] 6 ?_
        refine ⟨fun g => ?_, fun g => ?_⟩
        · have ck' : dK (a_up (a_up σ3 15 2 (nI 0)) 15 3 (nI 0)) a.1 := ⟨by simp [a_up, ck.1], fun j hj => by simp [a_up]; exact ck.2 j hj⟩
          show K _ _ (some (.int (a_up (a_up σ3 15 2 (nI 0)) 15 3 (nI 0) 15 11)))
          rw [ck'.1]
          simp only [kf] at hkf
          rw [← hkf] at hK
          refine hK _ ?_ ?_ ?_ ck' ?_ (fun q q1 q2 q3 q4 => ?_) (fun i q1 q2 q3 q4 q5 q6 q7 => ?_)
          · simp [a_up]
          · simp [a_up]
          · simp only [a_up, if_true, if_false, show (0 : Nat) ≠ 3 by decide, show (0 : Nat) ≠ 2 by decide]
            rw [f3.2 0 (by decide) (by decide) (by decide), m2.2 0 (by decide) (by decide) (by decide), f1' 0 (by decide), g2]
          · exact ⟨by simp [a_up, cn.1], fun j hj => by simp [a_up]; exact cn.2 j hj⟩
          · rw [a_up_ne q1, a_up_ne q1, f3.1 q q1 q4, m2.1 q q1 q4, f1 q q1 q2 q3, g0 q q1]
          · simp only [a_up, if_true, if_false, q2, q3]
            rw [f3.2 i q5 q6 q7, m2.2 i q5 q6 q7, f1' i q4, g1 i q1]
        · rw [f5, nI_leI (by omega) (by omega)] at g
          omega
      | succ n ih =>
        intro w x a σ3 hx hwn ck cn hb hnl f3 hkf
        subst hx
        have r3 := rF_of f3 r2
        have f5 : σ3 15 9 = nI S.2.1.length := r3.1
        have f9 : σ3 15 5 = b2i rom := by rw [f3.2 5 (by decide) (by decide) (by decide), m2.2 5 (by decide) (by decide) (by decide), f1' 5 (by decide), g1 5 (by decide)]; exact h9
        simp only [Bs] at hb
        simp only [kf] at hkf
        have hwlt : w < S.2.1.length := by omega
        have hae := hw.2.2.1 w hwlt
        have hee := hw.2.2.2.1 (w + 1) (by omega)
        have hl0 := hw.1
        have hl1 := wk_len (rom := rom) (f := fun j => S.1.getD j 0) (k := a.1) hae
        have hl2 := wn_len (rom := rom) (f := fun j => S.1.getD j 0) (a := sta S.2.1 w) (e := sta S.2.1 (w + 1)) (ns := a.2)
        have hb2 : sta S.2.1 (w + 1) - sta S.2.1 w + 2 ≤ bb (sta S.2.1 (w + 1) - sta S.2.1 w) ∧ 6 ≤ bb (sta S.2.1 (w + 1) - sta S.2.1 w) := by
          unfold bb
          split <;> omega
        have nxt : ∀ (σ4 : aS), dK σ4 (wk rom (fun j => S.1.getD j 0) (sta S.2.1 w) (sta S.2.1 (w + 1)) a.1) → dN σ4 (wn rom (fun j => S.1.getD j 0) (sta S.2.1 w) (sta S.2.1 (w + 1)) a.2) → mF σ2 σ4 → AT 150 0 0 σ4 z [(0, .ref 15), (2, .int (nI w))] [] := by
          intro σ4 c4 n4 f4
          refine step [(49, [0, 2])] 6 ?_
          exact ih (w + 1) _ _ σ4 (nI_add w 1) (by omega) c4 n4 (by dsimp only; omega) (by dsimp only; omega) f4 hkf
        unfold wk wn at nxt
        have c73 : ∀ (σ4 : aS) (v : Nat), dK σ4 a.1 → dN σ4 a.2 → mF σ2 σ4 → v = (if rom = true then rmn (fun j => S.1.getD j 0) (sta S.2.1 w) (sta S.2.1 (w + 1)) else 0) → AT 73 0 0 σ4 z [(0, .ref 15), (2, .int (nI w))] [.int (nI v)] := by
          intro σ4 v c4 n4 f4 hv
          have r4 := rF_of f4 r2
          have hvl : v < 100000 := by
            rw [hv]
            split
            · exact rmn_le (Nat.le_of_lt hae)
            · omega
          have hvp : 0 < v ↔ (rom = true ∧ 0 < rmn (fun j => S.1.getD j 0) (sta S.2.1 w) (sta S.2.1 (w + 1))) := by
            rw [hv]
            split
            · rename_i q; simp [q]
            · rename_i q; simp [q]
          refine step [(150, [0, 2]), (102, [0, 2])] 6 ?_
          refine t_isNumber hX r4 hw hwlt ?_
          refine ⟨fun g => ?_, fun g => ?_⟩
          · rw [b2i_0] at g
            rw [g] at nxt
            simp only [Bool.false_eq_true, if_false] at nxt
            refine ⟨fun g2 => ?_, fun g2 => ?_⟩
            · rw [← nI_0, nI_leI (by omega) (by omega)] at g2
              have hno : ¬ (rom = true ∧ 0 < rmn (fun j => S.1.getD j 0) (sta S.2.1 w) (sta S.2.1 (w + 1))) := fun q => by have := hvp.mpr q; omega
              rw [if_neg hno, if_neg hno] at nxt
              -- the letters
              have lt : ∀ (n i : Nat) (x : Int32) (k1 : List Nat) (σ5 : aS), x = nI i → i + n = sta S.2.1 (w + 1) → dK σ5 k1 → dN σ5 a.2 → mF σ2 σ5 → k1.length + n + 1 ≤ 240 → ap (fun j => S.1.getD j 0) k1 i n = ap (fun j => S.1.getD j 0) (a.1 ++ [3]) (sta S.2.1 w) (sta S.2.1 (w + 1) - sta S.2.1 w) → AT 115 0 0 σ5 z [(0, .ref 15), (2, .int (nI w)), (4, .int x)] [] := by
                intro n
                induction n with
                | zero =>
                  intro i x k1 σ5 hx hi c5 n5 f5' hkl hap
                  subst hx
                  have b2 := (rF_of f5' r2).2.2 (w + 1) (by omega)
                  refine step [(115, [0, 2, 4]), (150, [0, 2])] 6 ?_
                  refine ⟨w + 1, ⟨by omega, by omega, nI_add w 1⟩, ?_⟩
                  refine ⟨fun g => ?_, fun g => ?_⟩
                  · refine t_mput hX (b := 0) rfl (by omega) c5 n5 (by omega) (fun σ6 c6 n6 g6 => ?_)
                    simp only [ap] at hap
                    rw [hap] at c6
                    exact nxt σ6 c6 n6 (f5'.tr g6)
                  · rw [b2, nI_leI (by omega) (by omega)] at g
                    omega
                | succ n ih2 =>
                  intro i x k1 σ5 hx hi c5 n5 f5' hkl hap
                  subst hx
                  have b2 := (rF_of f5' r2).2.2 (w + 1) (by omega)
                  have b3 := (rF_of f5' r2).2.1 i (by omega)
                  refine step [(115, [0, 2, 4]), (150, [0, 2])] 6 ?_
                  refine ⟨w + 1, ⟨by omega, by omega, nI_add w 1⟩, ?_⟩
                  refine ⟨fun g => ?_, fun g => ?_⟩
                  · rw [b2, nI_leI (by omega) (by omega)] at g
                    omega
                  · refine ⟨i, ⟨by omega, by omega, rfl⟩, ?_⟩
                    refine t_mput hX b3 (hw.2.2.2.2.1 i (by omega)).2 c5 n5 (by omega) (fun σ6 c6 n6 g6 => ?_)
                    exact ih2 (i + 1) _ _ σ6 (nI_add i 1) (by omega) c6 n6 (f5'.tr g6) (by simp; omega) hap
              have c102 : AT 102 0 0 σ4 z [(0, .ref 15), (2, .int (nI w))] [] := by
                refine step [(115, [0, 2, 4])] 6 ?_
                refine t_mput hX (b := 3) rfl (by omega) c4 n4 (by omega) (fun σ5 c5 n5 g5 => ?_)
                have b1 := (rF_of (f4.tr g5) r2).2.2 w (by omega)
                refine ⟨w, ⟨by omega, by omega, rfl⟩, ?_⟩
                exact lt (sta S.2.1 (w + 1) - sta S.2.1 w) _ _ _ σ5 b1 (by omega) c5 n5 (f4.tr g5) (by simp; omega) rfl
              exact c102
            · rw [← nI_0, nI_leI (by omega) (by omega)] at g2
              have hyes := hvp.mp (by omega)
              rw [if_pos hyes, if_pos hyes] at nxt
              have ev : v = rmn (fun j => S.1.getD j 0) (sta S.2.1 w) (sta S.2.1 (w + 1)) := by rw [hv, if_pos hyes.1]
              rw [← ev] at nxt
              refine t_mRoman hX c4 n4 (by omega) (by omega) hvl (by omega) (fun σ5 c5 n5 g5 => ?_)
              exact nxt σ5 c5 n5 (f4.tr g5)
          · rw [b2i_0] at g
            rw [(Bool.not_eq_false _).mp g] at nxt
            simp only [if_true] at nxt
            refine t_mDigits hX r4 hw c4 n4 (by omega) hwlt (by omega) rfl (fun σ5 c5 n5 g5 => ?_)
            exact nxt σ5 c5 n5 (f4.tr g5)
        refine step [(49, [0, 2]), (73, [0, 2])] 6 ?_
        refine ⟨fun g => ?_, fun g => ⟨fun g2 => ?_, fun g2 => ?_⟩⟩
        · rw [f5, nI_leI (by omega) (by omega)] at g
          omega
        · rw [f9, b2i_0] at g2
          exact c73 σ3 0 ck cn f3 (by rw [g2]; rfl)
        · rw [f9, b2i_0] at g2
          refine t_romanOf hX r3 hw ck cn hwlt (fun σ4 c4 n4 g4 => ?_)
          exact c73 σ4 _ c4 n4 (f3.tr g4) (by rw [if_pos ((Bool.not_eq_false _).mp g2)])
    have c46 : ∀ (b : Bool) (x : Int32), x = b2i b → mFirst left lang S = (if b = true then 1 else 0) → mFirst left lang S ≤ S.2.1.length → AT 46 0 0 σ2 z [(0, .ref 15)] [.int x] := by
      intro b x hx hb hle2
      refine step [(49, [0, 2])] 6 ?_
      have ex : x = nI (mFirst left lang S) := by
        rw [hx, hb]
        cases b <;> rfl
      refine loop (S.2.1.length - mFirst left lang S) (mFirst left lang S) x ([], []) σ2 ex (by omega) k2 n2 ?_ (Nat.zero_le _) mF.rf rfl
      show 0 + Bs S.2.1 (mFirst left lang S) (S.2.1.length - mFirst left lang S) ≤ 240
      rw [Nat.zero_add]
      have h01 : mFirst left lang S = 0 ∨ mFirst left lang S = 1 := by rw [hb]; split <;> simp
      rcases h01 with e | e
      · rw [e]; exact hBs
      · rw [e]
        have : Bs S.2.1 0 S.2.1.length = bb (sta S.2.1 1 - sta S.2.1 0) + Bs S.2.1 1 (S.2.1.length - 1) := by
          conv => lhs; rw [show S.2.1.length = (S.2.1.length - 1) + 1 by omega]
          rfl
        omega
    have c45 : mFirst left lang S = 0 → AT 45 0 0 σ2 z [(0, .ref 15)] [] := by
      intro h0
      refine step [(46, [0])] 6 ?_
      exact c46 false _ rfl (by rw [h0]; rfl) (by omega)
    have e15 : σ2 15 3 = nI left := by rw [m2.2 3 (by decide) (by decide) (by decide), f1' 3 (by decide), g1 3 (by decide)]; exact h2
    have e159 : σ2 15 9 = nI S.2.1.length := r2.1
    have e154 : σ2 15 4 = nI lang := by rw [m2.2 4 (by decide) (by decide) (by decide), f1' 4 (by decide), g1 4 (by decide)]; exact h8
    rw [e2] at e15 e159 e154 c46 c45 r2
    refine ⟨fun g => ?_, fun g => ?_⟩
    · rw [e15] at g
      exact c45 (by unfold mFirst; rw [decide_eq_false (show ¬ left = 0 from fun q => g (by rw [q]; rfl))]; simp)
    · rw [e15] at g
      have g := (nI_eq (b := 0) (by omega) (by omega)).mp g
      refine ⟨fun g2 => ?_, fun g2 => ?_⟩
      · rw [e159, nI_leI (by omega) (by omega)] at g2
        exact c45 (by unfold mFirst; rw [decide_eq_false (show ¬ 1 < S.2.1.length by omega)]; simp)
      · rw [e159, nI_leI (by omega) (by omega)] at g2
        refine t_mArticle hX r2 hw (lang := lang) (by omega) hlang e154 ?_
        refine ⟨fun g3 => ?_, fun g3 => ?_⟩
        · rw [b2i_0] at g3
          exact c45 (by unfold mFirst; rw [g3]; simp)
        · rw [b2i_0] at g3
          have e1 : mFirst left lang S = 1 := by
            unfold mFirst
            rw [(Bool.not_eq_false _).mp g3, decide_eq_true g, decide_eq_true (show 1 < S.2.1.length by omega)]
            rfl
          exact c46 true _ rfl (by rw [e1]; rfl) (by omega)
  refine step [(45, [0]), (46, [0]), (49, [0, 2])] 6 ?_
  exact c0 _ rfl
end MK2
