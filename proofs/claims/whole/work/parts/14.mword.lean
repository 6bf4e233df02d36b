/-! The reference: a word goes into the key -/
def dK (σ : aS) (k : List Nat) : Prop := σ 15 11 = nI k.length ∧ ∀ j, j < k.length → σ 20 j = nI (k.getD j 0)
def dN (σ : aS) (ns : List (Nat × Bool × Nat)) : Prop := σ 15 15 = nI ns.length ∧ ∀ j, j < ns.length → σ 21 j = nI (ns.getD j (0, false, 0)).1 ∧ σ 22 j = b2i (ns.getD j (0, false, 0)).2.1 ∧ σ 23 j = nI (ns.getD j (0, false, 0)).2.2
/-- what the reference's word methods leave as it was -/
def mF (σ σ' : aS) : Prop := (∀ q, q ≠ 15 → (q < 20 ∨ 23 < q) → σ' q = σ q) ∧ (∀ i, i ≠ 11 → i ≠ 15 → i ≠ 22 → σ' 15 i = σ 15 i)
theorem mF.rf {σ : aS} : mF σ σ := ⟨fun _ _ _ => rfl, fun _ _ _ _ => rfl⟩
theorem mF.tr {σ σ1 σ2 : aS} (h : mF σ σ1) (g : mF σ1 σ2) : mF σ σ2 := ⟨fun q h1 h2 => (g.1 q h1 h2).trans (h.1 q h1 h2), fun i h1 h2 h3 => (g.2 i h1 h2 h3).trans (h.2 i h1 h2 h3)⟩
theorem rF_of {σ σ' : aS} {S : sS} (h : mF σ σ') (r : rF σ S) : rF σ' S := by
  obtain ⟨r1, r2, r3⟩ := r
  exact ⟨by rw [h.2 9 (by decide) (by decide) (by decide)]; exact r1, fun j hj => by rw [h.1 18 (by decide) (by omega)]; exact r2 j hj, fun j hj => by rw [h.1 19 (by decide) (by omega)]; exact r3 j hj⟩
section MW
variable {X : aX} {ad : Nat → Nat} {ns : List Nat} {σ : aS} {z : aZ} {K : aS → aZ → Option Value → Prop} {S : sS}
theorem t_mput (hX : a_okX X) {k : List Nat} {nm : List (Nat × Bool × Nat)} {x : Int32} {b : Nat} (hx : x = nI b) (hb : b < 128) (hk : dK σ k) (hn : dN σ nm) (hl : k.length < 400) (hK : ∀ σ', dK σ' (k ++ [b]) → dN σ' nm → mF σ σ' → K σ' z none) : a_Meets X ad (a_LL ns) mX8_put σ z [.ref 15, .int x] K := by
  subst hx
  refine a_Meets.of hX oX8_put (al0 := [(0, .ref 15), (1, .int (nI b))]) rfl rfl (fun AT step => ?_)
  refine step [] 5 ?_
  refine ⟨k.length, ⟨by omega, by omega, hk.1⟩, ?_⟩
  show K _ _ _
  rw [nar_by b hb, show a_up σ 20 k.length (nI b) 15 11 + nI 1 = nI (k.length + 1) by simp [a_up, hk.1, nI_add]]
  refine hK _ ⟨by simp [a_up], fun j hj => ?_⟩ ⟨by simp [a_up, hn.1], fun j hj => by simp [a_up]; exact hn.2 j hj⟩ ⟨fun q h1 h2 => ?_, fun i h1 h2 h3 => ?_⟩
  · rw [getD_app]
    simp only [a_up, show (20 : Nat) ≠ 15 by decide, if_false, if_true]
    split
    · rfl
    · simp at hj
      exact hk.2 j (by omega)
  · rw [a_up_ne h1, a_up_ne (by omega)]
  · simp [a_up, h1]
theorem t_mnote (hX : a_okX X) {k : List Nat} {nm : List (Nat × Bool × Nat)} {x y : Int32} {d t : Nat} {w : Bool} (hx : x = nI d) (hy : y = nI t) (hk : dK σ k) (hn : dN σ nm) (hl : nm.length < 80) (hK : ∀ σ', dK σ' k → dN σ' (nm ++ [(d, w, t)]) → mF σ σ' → K σ' z none) : a_Meets X ad (a_LL ns) mX8_note σ z [.ref 15, .int x, .int (b2i w), .int y] K := by
  subst hx
  subst hy
  refine a_Meets.of hX oX8_note (al0 := [(0, .ref 15), (1, .int (nI d)), (2, .int (b2i w)), (3, .int (nI t))]) rfl rfl (fun AT step => ?_)
  refine step [] 5 ?_
  refine ⟨nm.length, ⟨by omega, by omega, hn.1⟩, nm.length, ⟨by omega, by omega, hn.1⟩, nm.length, ⟨by omega, by omega, hn.1⟩, ?_⟩
  show K _ _ _
  rw [show a_up (a_up (a_up σ 21 nm.length (nI d)) 22 nm.length (b2i w)) 23 nm.length (nI t) 15 15 + nI 1 = nI (nm.length + 1) by simp [a_up, hn.1, nI_add]]
  refine hK _ ⟨by simp [a_up, hk.1], fun j hj => by simp [a_up]; exact hk.2 j hj⟩ ⟨by simp [a_up], fun j hj => ?_⟩ ⟨fun q h1 h2 => ?_, fun i h1 h2 h3 => ?_⟩
  · rw [getD_app]
    simp at hj
    by_cases e : j = nm.length
    · subst e
      simp [a_up]
    · simp only [a_up, show (21 : Nat) ≠ 15 by decide, show (21 : Nat) ≠ 22 by decide, show (21 : Nat) ≠ 23 by decide, show (22 : Nat) ≠ 15 by decide, show (22 : Nat) ≠ 21 by decide, show (22 : Nat) ≠ 23 by decide, show (23 : Nat) ≠ 15 by decide, if_false, if_true, e]
      exact hn.2 j (by omega)
  · rw [a_up_ne h1, a_up_ne (by omega), a_up_ne (by omega), a_up_ne (by omega)]
  · simp [a_up, h2]
theorem t_is (hX : a_okX X) (hr : rF σ S) (hw : wOK S) {w x1 x2 x3 : Nat} {t : List Nat} (h : w < S.2.1.length) (h1 : x1 < 128) (h2 : x2 < 128) (h3 : x3 < 128) (ht : t = if x3 = 0 then (if x2 = 0 then [x1] else [x1, x2]) else [x1, x2, x3])
    (hK : K σ z (some (.int (b2i (rdT (fun j => S.1.getD j 0) (sta S.2.1 w) (sta S.2.1 (w + 1)) t))))) : a_Meets X ad (a_LL ns) mX8_is σ z [.ref 15, .int (nI w), .int (nI x1), .int (nI x2), .int (nI x3)] K := by
  have he := hw.2.2.2.1 (w + 1) (by omega)
  have hae := hw.2.2.1 w h
  have hl := hw.1
  have hwl := hw.2.1
  have b1 := hr.2.2 w (by omega)
  have b2 := hr.2.2 (w + 1) (by omega)
  generalize hee : sta S.2.1 (w + 1) = e at *
  generalize haa : sta S.2.1 w = a at *
  have hlt : t.length = (if x3 = 0 then (if x2 = 0 then 1 else 2) else 3) := by
    rw [ht]
    split
    · split <;> rfl
    · rfl
  have hlen : 1 ≤ t.length ∧ t.length ≤ 3 := by
    rw [hlt]
    split
    · split <;> omega
    · omega
  refine a_Meets.of hX oX8_is (al0 := [(0, .ref 15), (1, .int (nI w)), (2, .int (nI x1)), (3, .int (nI x2)), (4, .int (nI x3))]) rfl rfl (fun AT step => ?_)
  have c98 : rdT (fun j => S.1.getD j 0) a e t = false → AT 98 0 0 σ z [] [] := by
    intro hf
    refine step [] 5 ?_
    exact k_b0 hK hf
  have c94 : rdT (fun j => S.1.getD j 0) a e t = true → AT 94 0 0 σ z [] [] := by
    intro hf
    refine step [] 5 ?_
    exact k_b1 hK hf
  have c74 : e - a = t.length → S.1.getD a 0 = x1 → (2 ≤ t.length → S.1.getD (a + 1) 0 = x2) → AT 74 0 0 σ z [(0, .ref 15), (2, .int (nI x1)), (3, .int (nI x2)), (4, .int (nI x3)), (5, .int (nI a)), (6, .int (nI (e - a)))] [] := by
    intro q0 q1 q2
    refine step [(94, []), (98, [])] 5 ?_
    refine ⟨fun g => ?_, fun g => ?_⟩
    · rw [nI_ltI (by omega) (by omega)] at g
      refine c94 ?_
      have hx3 : x3 = 0 := by
        rw [hlt] at q0
        split at q0
        · assumption
        · omega
      rw [ht, if_pos hx3]
      rw [hlt, if_pos hx3] at q0 q2
      split at q0
      · rename_i e2
        rw [if_pos e2]
        simp only [rdT, eqT, List.length_singleton, Bool.and_true, Bool.and_eq_true, decide_eq_true_eq]
        exact ⟨by omega, q1⟩
      · rename_i e2
        rw [if_neg e2] at q2 ⊢
        simp only [rdT, eqT, List.length_cons, List.length_nil, Bool.and_true, Bool.and_eq_true, decide_eq_true_eq]
        exact ⟨by omega, q1, q2 (by omega)⟩
    · rw [nI_ltI (by omega) (by omega)] at g
      have hx3 : ¬ x3 = 0 := by
        intro q
        rw [hlt, if_pos q] at q0
        split at q0 <;> omega
      rw [if_neg hx3] at ht hlt
      refine ⟨a + 2, ⟨by omega, by omega, nI_add a 2⟩, ?_⟩
      have b3 := hr.2.1 (a + 2) (by omega)
      have hb3 := hw.2.2.2.2.1 (a + 2) (by omega)
      refine ⟨fun g2 => ?_, fun g2 => ?_⟩
      · rw [b3] at g2
        refine c98 ?_
        rw [ht]
        have g2 : ¬ S.1.getD (a + 2) 0 = x3 := fun q => g2 (by rw [q])
        simp only [rdT, eqT, Bool.and_true, Bool.and_eq_false_iff, decide_eq_false_iff_not]
        exact Or.inr (Or.inr (Or.inr g2))
      · rw [b3] at g2
        refine c94 ?_
        rw [ht]
        have g2 := (nI_eq (by omega) (by omega)).mp g2
        simp only [rdT, eqT, Bool.and_true, Bool.and_eq_true, decide_eq_true_eq, List.length_cons, List.length_nil]
        exact ⟨by omega, q1, q2 (by omega), g2⟩
  have c41 : ∀ x : Int32, x = nI t.length → AT 41 0 0 σ z [(0, .ref 15), (2, .int (nI x1)), (3, .int (nI x2)), (4, .int (nI x3)), (5, .int (nI a)), (6, .int (nI (e - a)))] [.int x, .int (nI (e - a))] := by
    intro x hx
    subst hx
    refine step [(74, [0, 2, 3, 4, 5, 6]), (98, [])] 5 ?_
    have b3 := hr.2.1 a (by omega)
    have hb3 := hw.2.2.2.2.1 a (by omega)
    refine ⟨fun g => ?_, fun g => ?_⟩
    · have g : ¬ e - a = t.length := fun q => g (by rw [q])
      exact c98 (by simp only [rdT, decide_eq_false g, Bool.false_and])
    · have g := (nI_eq (by omega) (by omega)).mp g
      refine ⟨a, ⟨by omega, by omega, rfl⟩, ?_⟩
      refine ⟨fun g2 => ?_, fun g2 => ?_⟩
      · rw [b3] at g2
        have g2 : ¬ S.1.getD a 0 = x1 := fun q => g2 (by rw [q])
        refine c98 ?_
        have : ∃ r, t = x1 :: r := by
          rw [ht]
          split
          · split
            · exact ⟨_, rfl⟩
            · exact ⟨_, rfl⟩
          · exact ⟨_, rfl⟩
        obtain ⟨r, er⟩ := this
        rw [er]
        simp only [rdT, eqT, decide_eq_false g2, Bool.false_and, Bool.and_false]
      · rw [b3] at g2
        have g2 := (nI_eq (by omega) (by omega)).mp g2
        refine ⟨fun g3 => ?_, fun g3 => ?_⟩
        · rw [nI_ltI (by omega) (by omega)] at g3
          exact c74 g g2 (fun q => by omega)
        · rw [nI_ltI (by omega) (by omega)] at g3
          refine ⟨a + 1, ⟨by omega, by omega, nI_add a 1⟩, ?_⟩
          have b4 := hr.2.1 (a + 1) (by omega)
          have hb4 := hw.2.2.2.2.1 (a + 1) (by omega)
          refine ⟨fun g4 => ?_, fun g4 => ?_⟩
          · rw [b4] at g4
            have g4 : ¬ S.1.getD (a + 1) 0 = x2 := fun q => g4 (by rw [q])
            refine c98 ?_
            have : ∃ r, t = x1 :: x2 :: r := by
              rw [hlt] at g
              rw [ht]
              split
              · rename_i e3
                rw [if_pos e3] at g
                split
                · rename_i e2
                  rw [if_pos e2] at g
                  omega
                · exact ⟨_, rfl⟩
              · exact ⟨_, rfl⟩
            obtain ⟨r, er⟩ := this
            rw [er]
            simp only [rdT, eqT, decide_eq_false g4, Bool.false_and, Bool.and_false]
          · rw [b4] at g4
            exact c74 g g2 (fun _ => (nI_eq (by omega) (by omega)).mp g4)
  refine step [(41, [0, 2, 3, 4, 5, 6])] 5 ?_
  refine ⟨w, ⟨by omega, by omega, rfl⟩, w + 1, ⟨by omega, by omega, nI_add w 1⟩, ?_⟩
  have es : σ 19 (w + 1) - σ 19 w = nI (e - a) := by rw [b1, b2, pk_sub (by omega)]
  show (¬ nI x3 = 0 → AT 41 0 0 σ z [(0, .ref 15), (2, .int (nI x1)), (3, .int (nI x2)), (4, .int (nI x3)), (5, .int (σ 19 w)), (6, .int (σ 19 (w + 1) - σ 19 w))] [.int (nI 3), .int (σ 19 (w + 1) - σ 19 w)]) ∧ (nI x3 = 0 → (¬ nI x2 = 0 → AT 41 0 0 σ z [(0, .ref 15), (2, .int (nI x1)), (3, .int (nI x2)), (4, .int (nI x3)), (5, .int (σ 19 w)), (6, .int (σ 19 (w + 1) - σ 19 w))] [.int (nI 2), .int (σ 19 (w + 1) - σ 19 w)]) ∧ (nI x2 = 0 → AT 41 0 0 σ z [(0, .ref 15), (2, .int (nI x1)), (3, .int (nI x2)), (4, .int (nI x3)), (5, .int (σ 19 w)), (6, .int (σ 19 (w + 1) - σ 19 w))] [.int (nI 1), .int (σ 19 (w + 1) - σ 19 w)]))
  rw [es, b1]
  refine ⟨fun g => ?_, fun g => ⟨fun g2 => ?_, fun g2 => ?_⟩⟩
  · exact c41 _ (by rw [hlt, if_neg (fun q => g (by rw [q]; rfl))])
  · have g := (nI_eq (b := 0) (by omega) (by omega)).mp g
    exact c41 _ (by rw [hlt, if_pos g, if_neg (fun q => g2 (by rw [q]; rfl))])
  · have g := (nI_eq (b := 0) (by omega) (by omega)).mp g
    have g2 := (nI_eq (b := 0) (by omega) (by omega)).mp g2
    exact c41 _ (by rw [hlt, if_pos g, if_pos g2])
theorem t_mArticle (hX : a_okX X) (hr : rF σ S) (hw : wOK S) {lang : Nat} (h : 0 < S.2.1.length) (hlang : lang < 4) (h0 : σ 15 4 = nI lang) (hK : K σ z (some (.int (b2i (isArt lang (fun j => S.1.getD j 0) (sta S.2.1 0) (sta S.2.1 1)))))) : a_Meets X ad (a_LL ns) mX8_isArticle σ z [.ref 15] K := by
  refine a_Meets.of hX oX8_isArticle (al0 := [(0, .ref 15)]) rfl rfl (fun AT step => ?_)
  refine step [] 6 ?_
  have leaf : ∀ (j1 j2 j3 : Nat), K σ z (some (.int (b2i (rdT (fun j => S.1.getD j 0) (sta S.2.1 0) (sta S.2.1 1) (a_tx j1) || (rdT (fun j => S.1.getD j 0) (sta S.2.1 0) (sta S.2.1 1) (a_tx j2) || rdT (fun j => S.1.getD j 0) (sta S.2.1 0) (sta S.2.1 1) (a_tx j3)))))) → True := fun _ _ _ _ => trivial
  refine ⟨⟨fun g => ?_, fun g => ?_, fun g => ?_, trivial⟩, fun g => ?_⟩
  · have e : lang = 1 := (nI_eq (by omega) (by omega)).mp (h0.symm.trans g)
    subst e
    simp only [isArt] at hK
    refine t_is hX hr hw (w := 0) (t := a_tx 0) (x1 := 97) (x2 := 0) (x3 := 0) h (by omega) (by omega) (by omega) rfl ?_
    refine ⟨fun g2 => ?_, fun g2 => ?_⟩
    · rw [b2i_0] at g2
      exact k_b1 hK (by rw [show sta S.2.1 1 = sta S.2.1 (0 + 1) from rfl, (Bool.not_eq_false _).mp g2]; simp)
    · rw [b2i_0] at g2
      refine t_is hX hr hw (w := 0) (t := a_tx 1) (x1 := 97) (x2 := 110) (x3 := 0) h (by omega) (by omega) (by omega) rfl ?_
      refine ⟨fun g3 => ?_, fun g3 => ?_⟩
      · rw [b2i_0] at g3
        exact k_b1 hK (by rw [show sta S.2.1 1 = sta S.2.1 (0 + 1) from rfl, (Bool.not_eq_false _).mp g3]; simp)
      · rw [b2i_0] at g3
        refine t_is hX hr hw (w := 0) (t := a_tx 2) (x1 := 116) (x2 := 104) (x3 := 101) h (by omega) (by omega) (by omega) rfl ?_
        refine ⟨fun g4 => ?_, fun g4 => ?_⟩
        · rw [b2i_0] at g4
          exact k_b0 hK (by rw [show sta S.2.1 1 = sta S.2.1 (0 + 1) from rfl, g2, g3, g4]; rfl)
        · rw [b2i_0] at g4
          exact k_b1 hK (by rw [show sta S.2.1 1 = sta S.2.1 (0 + 1) from rfl, (Bool.not_eq_false _).mp g4]; simp)
  · have e : lang = 2 := (nI_eq (by omega) (by omega)).mp (h0.symm.trans g)
    subst e
    simp only [isArt] at hK
    refine t_is hX hr hw (w := 0) (t := a_tx 3) (x1 := 100) (x2 := 101) (x3 := 114) h (by omega) (by omega) (by omega) rfl ?_
    refine ⟨fun g2 => ?_, fun g2 => ?_⟩
    · rw [b2i_0] at g2
      exact k_b1 hK (by rw [show sta S.2.1 1 = sta S.2.1 (0 + 1) from rfl, (Bool.not_eq_false _).mp g2]; simp)
    · rw [b2i_0] at g2
      refine t_is hX hr hw (w := 0) (t := a_tx 4) (x1 := 100) (x2 := 105) (x3 := 101) h (by omega) (by omega) (by omega) rfl ?_
      refine ⟨fun g3 => ?_, fun g3 => ?_⟩
      · rw [b2i_0] at g3
        exact k_b1 hK (by rw [show sta S.2.1 1 = sta S.2.1 (0 + 1) from rfl, (Bool.not_eq_false _).mp g3]; simp)
      · rw [b2i_0] at g3
        refine t_is hX hr hw (w := 0) (t := a_tx 5) (x1 := 100) (x2 := 97) (x3 := 115) h (by omega) (by omega) (by omega) rfl ?_
        refine ⟨fun g4 => ?_, fun g4 => ?_⟩
        · rw [b2i_0] at g4
          exact k_b0 hK (by rw [show sta S.2.1 1 = sta S.2.1 (0 + 1) from rfl, g2, g3, g4]; rfl)
        · rw [b2i_0] at g4
          exact k_b1 hK (by rw [show sta S.2.1 1 = sta S.2.1 (0 + 1) from rfl, (Bool.not_eq_false _).mp g4]; simp)
  · have e : lang = 3 := (nI_eq (by omega) (by omega)).mp (h0.symm.trans g)
    subst e
    simp only [isArt] at hK
    refine t_is hX hr hw (w := 0) (t := a_tx 6) (x1 := 108) (x2 := 101) (x3 := 0) h (by omega) (by omega) (by omega) rfl ?_
    refine ⟨fun g2 => ?_, fun g2 => ?_⟩
    · rw [b2i_0] at g2
      exact k_b1 hK (by rw [show sta S.2.1 1 = sta S.2.1 (0 + 1) from rfl, (Bool.not_eq_false _).mp g2]; simp)
    · rw [b2i_0] at g2
      refine t_is hX hr hw (w := 0) (t := a_tx 7) (x1 := 108) (x2 := 97) (x3 := 0) h (by omega) (by omega) (by omega) rfl ?_
      refine ⟨fun g3 => ?_, fun g3 => ?_⟩
      · rw [b2i_0] at g3
        exact k_b1 hK (by rw [show sta S.2.1 1 = sta S.2.1 (0 + 1) from rfl, (Bool.not_eq_false _).mp g3]; simp)
      · rw [b2i_0] at g3
        refine t_is hX hr hw (w := 0) (t := a_tx 8) (x1 := 108) (x2 := 101) (x3 := 115) h (by omega) (by omega) (by omega) rfl ?_
        refine ⟨fun g4 => ?_, fun g4 => ?_⟩
        · rw [b2i_0] at g4
          exact k_b0 hK (by rw [show sta S.2.1 1 = sta S.2.1 (0 + 1) from rfl, g2, g3, g4]; rfl)
        · rw [b2i_0] at g4
          exact k_b1 hK (by rw [show sta S.2.1 1 = sta S.2.1 (0 + 1) from rfl, (Bool.not_eq_false _).mp g4]; simp)
  · have e : lang = 0 := by
      rw [h0, nI_toInt (by omega)] at g
      omega
    subst e
    exact k_b0 hK rfl
theorem t_isNumber (hX : a_okX X) (hr : rF σ S) (hw : wOK S) {w : Nat} (h : w < S.2.1.length) (hK : K σ z (some (.int (b2i (aD (fun j => S.1.getD j 0) (sta S.2.1 w) (sta S.2.1 (w + 1) - sta S.2.1 w)))))) : a_Meets X ad (a_LL ns) mX8_isNumber σ z [.ref 15, .int (nI w)] K := by
  have he := hw.2.2.2.1 (w + 1) (by omega)
  have hae := hw.2.2.1 w h
  have hl := hw.1
  have hwl := hw.2.1
  have b1 := hr.2.2 w (by omega)
  have b2 := hr.2.2 (w + 1) (by omega)
  refine a_Meets.of hX oX8_isNumber (al0 := [(0, .ref 15), (1, .int (nI w))]) rfl rfl (fun AT step => ?_)
  have loop : ∀ (n i : Nat) (x y : Int32) (acc : Bool), x = nI i → y = b2i acc → i + n = sta S.2.1 (w + 1) → K σ z (some (.int (b2i (acc && aD (fun j => S.1.getD j 0) i n)))) → AT 9 0 0 σ z [(0, .ref 15), (1, .int (nI w)), (2, .int y), (3, .int x)] [] := by
    intro n
    induction n with
    | zero =>
      intro i x y acc hx hy hi hk
      subst hx
      subst hy
      refine step [(9, [0, 1, 2, 3])] 5 ?_
      refine ⟨w + 1, ⟨by omega, by omega, nI_add w 1⟩, ?_⟩
      refine ⟨fun g => ?_, fun g => ?_⟩
      · refine ⟨b2i_01 acc, ?_⟩
        simp only [aD, Bool.and_true] at hk
        exact hk
      · rw [b2, nI_leI (by omega) (by omega)] at g
        omega
    | succ n ih =>
      intro i x y acc hx hy hi hk
      subst hx
      subst hy
      have c42 : ∀ (x : Int32) (b : Bool), x = b2i b → b = (acc && cD (nI (S.1.getD i 0))) → AT 42 0 0 σ z [(0, .ref 15), (1, .int (nI w)), (2, .int (b2i acc)), (3, .int (nI i))] [.int x] := by
        intro x b hx hb
        refine step [(9, [0, 1, 2, 3])] 5 ?_
        refine ih (i + 1) _ x b (nI_add i 1) hx (by omega) ?_
        rw [hb]
        simp only [aD] at hk
        rw [Bool.and_assoc]
        exact hk
      refine step [(9, [0, 1, 2, 3]), (42, [0, 1, 2, 3])] 5 ?_
      refine ⟨w + 1, ⟨by omega, by omega, nI_add w 1⟩, ?_⟩
      have b3 := hr.2.1 i (by omega)
      refine ⟨fun g => ?_, fun g => ⟨fun g2 => ?_, fun g2 => ?_⟩⟩
      · rw [b2, nI_leI (by omega) (by omega)] at g
        omega
      · rw [b2i_0] at g2
        exact c42 _ false rfl (by rw [g2]; rfl)
      · rw [b2i_0] at g2
        refine ⟨i, ⟨by omega, by omega, rfl⟩, ?_⟩
        show a_Meets _ _ _ _ _ _ [.int (σ 18 i)] _
        rw [b3]
        refine t_X8_isDigit hX ?_
        refine ⟨fun g3 => ?_, fun g3 => ?_⟩
        · rw [b2i_0] at g3
          exact c42 _ false rfl (by rw [g3, Bool.and_false])
        · rw [b2i_0] at g3
          exact c42 _ true rfl (by rw [(Bool.not_eq_false _).mp g3, (Bool.not_eq_false _).mp g2]; rfl)
  refine step [(9, [0, 1, 2, 3])] 5 ?_
  refine ⟨w, ⟨by omega, by omega, rfl⟩, ?_⟩
  exact loop (sta S.2.1 (w + 1) - sta S.2.1 w) _ _ _ true b1 rfl (by omega) (by rw [Bool.true_and]; exact hK)
theorem t_mDigits (hX : a_okX X) (hr : rF σ S) (hw : wOK S) {k : List Nat} {nm : List (Nat × Bool × Nat)} (hk : dK σ k) (hn : dN σ nm) (hnl : nm.length < 80) {w : Nat} (h : w < S.2.1.length) (hl : k.length + 2 + (sta S.2.1 (w + 1) - sta S.2.1 w) ≤ 240) {fo : Nat} (hfo : fo = fz (fun j => S.1.getD j 0) (sta S.2.1 w) (sta S.2.1 (w + 1) - sta S.2.1 w))
    (hK : ∀ σ', dK σ' (ap (fun j => S.1.getD j 0) (k ++ [2] ++ [sta S.2.1 (w + 1) - fo]) fo (sta S.2.1 (w + 1) - fo)) → dN σ' (nm ++ [(sta S.2.1 (w + 1) - fo, false, tlv (fun j => S.1.getD j 0) (sta S.2.1 (w + 1)) 0 fo (sta S.2.1 (w + 1) - fo))]) → mF σ σ' → K σ' z none) : a_Meets X ad (a_LL ns) mX8_putDigits σ z [.ref 15, .int (nI w)] K := by
  have he := hw.2.2.2.1 (w + 1) (by omega)
  have hae := hw.2.2.1 w h
  have hl0 := hw.1
  have hwl := hw.2.1
  have b1 := hr.2.2 w (by omega)
  have b2 := hr.2.2 (w + 1) (by omega)
  have hz := fz_in (fun j => S.1.getD j 0) (sta S.2.1 (w + 1) - sta S.2.1 w) (sta S.2.1 w)
  have hz2 := hz.2 (by omega)
  rw [← hfo] at hz hz2
  refine a_Meets.of hX oX8_putDigits (al0 := [(0, .ref 15), (1, .int (nI w))]) rfl rfl (fun AT step => ?_)
  generalize hee : sta S.2.1 (w + 1) = e at *
  generalize haa : sta S.2.1 w = a at *
  have loop2 : ∀ (n i t : Nat) (x y : Int32) (k1 : List Nat) (σ1 : aS), x = nI i → y = nI t → i + n = e → fo ≤ i → dK σ1 k1 → dN σ1 nm → mF σ σ1 → k1.length + n ≤ 240 → ap (fun j => S.1.getD j 0) k1 i n = ap (fun j => S.1.getD j 0) (k ++ [2] ++ [e - fo]) fo (e - fo) → tlv (fun j => S.1.getD j 0) e t i n = tlv (fun j => S.1.getD j 0) e 0 fo (e - fo) →
      AT 58 0 0 σ1 z [(0, .ref 15), (1, .int (nI w)), (2, .int (nI fo)), (3, .int (nI e)), (4, .int y), (5, .int x)] [] := by
    intro n
    induction n with
    | zero =>
      intro i t x y k1 σ1 hx hy hi hfi hk1 hn1 hf hkl hap htl
      subst hx
      subst hy
      refine step [(58, [0, 1, 2, 3, 4, 5]), (105, [0, 1, 2, 3, 4, 5])] 5 ?_
      refine ⟨fun g => ?_, fun g => ?_⟩
      · simp only [ap] at hap
        simp only [tlv] at htl
        subst hap
        subst htl
        refine t_mnote hX (d := e - fo) (w := false) (pk_sub (by omega)) rfl hk1 hn1 hnl (fun σ2 c2 c3 g2 => ?_)
        exact hK σ2 c2 c3 (hf.tr g2)
      · rw [nI_leI (by omega) (by omega)] at g
        omega
    | succ n ih =>
      intro i t x y k1 σ1 hx hy hi hfi hk1 hn1 hf hkl hap htl
      subst hx
      subst hy
      refine step [(58, [0, 1, 2, 3, 4, 5]), (105, [0, 1, 2, 3, 4, 5])] 5 ?_
      refine ⟨fun g => ?_, fun g => ?_⟩
      · rw [nI_leI (by omega) (by omega)] at g
        omega
      · have hb := hw.2.2.2.2.1 i (by omega)
        have b3 := (rF_of hf hr).2.1 i (by omega)
        refine ⟨i, ⟨by omega, by omega, rfl⟩, ?_⟩
        refine t_mput hX b3 hb.2 hk1 hn1 (by omega) (fun σ2 c2 c3 g2 => ?_)
        have b4 := (rF_of (hf.tr g2) hr).2.1 i (by omega)
        simp only [ap] at hap
        simp only [tlv] at htl
        have nxt : ∀ (y : Int32), y = nI (if e ≤ i + 9 then 10 * t + (S.1.getD i 0 - 48) else t) → AT 105 0 0 σ2 z [(0, .ref 15), (1, .int (nI w)), (2, .int (nI fo)), (3, .int (nI e)), (4, .int (nI t)), (5, .int (nI i))] [.int y] := by
          intro y hy
          refine step [(58, [0, 1, 2, 3, 4, 5])] 5 ?_
          exact ih (i + 1) _ _ y _ σ2 (nI_add i 1) hy (by omega) (by omega) c2 c3 (hf.tr g2) (by simp; omega) hap htl
        refine ⟨fun g3 => ?_, fun g3 => ?_⟩
        · rw [pk_sub (by omega), nI_ltI (by omega) (by omega)] at g3
          exact nxt _ (by rw [if_neg (by omega)])
        · rw [pk_sub (by omega), nI_ltI (by omega) (by omega)] at g3
          refine ⟨i, ⟨by omega, by omega, rfl⟩, ?_⟩
          refine nxt _ ?_
          rw [b4, if_pos (by omega), pk_mul, nI_add, pk_sub (by omega)]
          congr 1
          omega
  have c40 : ∀ (x : Int32), x = nI fo → AT 40 0 0 σ z [(0, .ref 15), (1, .int (nI w)), (2, .int x), (3, .int (nI e))] [] := by
    intro x hx
    subst hx
    refine step [(58, [0, 1, 2, 3, 4, 5])] 5 ?_
    refine t_mput hX (b := 2) rfl (by omega) hk hn (by omega) (fun σ2 c2 n2 g2 => ?_)
    refine t_mput hX (b := e - fo) (pk_sub (by omega)) (by omega) c2 n2 (by simp; omega) (fun σ3 c3 n3 g3 => ?_)
    exact loop2 (e - fo) fo 0 _ _ _ σ3 rfl rfl (by omega) (Nat.le_refl _) c3 n3 (g2.tr g3) (by simp; omega) rfl rfl
  have loop1 : ∀ (n i : Nat) (x : Int32), x = nI i → i + n = e → 0 < n → fz (fun j => S.1.getD j 0) i n = fo → AT 16 0 0 σ z [(0, .ref 15), (1, .int (nI w)), (2, .int x), (3, .int (nI e))] [] := by
    intro n
    induction n with
    | zero => intro i x _ _ h0; omega
    | succ n ih =>
      intro i x hx hi _ hfz
      subst hx
      unfold fz at hfz
      refine step [(16, [0, 1, 2, 3]), (40, [0, 1, 2, 3])] 5 ?_
      refine ⟨fun g => ?_, fun g => ?_⟩
      · rw [pk_sub (by omega), nI_leI (by omega) (by omega)] at g
        rw [if_neg (by omega)] at hfz
        exact c40 _ (by rw [hfz])
      · rw [pk_sub (by omega), nI_leI (by omega) (by omega)] at g
        have hb := hw.2.2.2.2.1 i (by omega)
        have b3 := hr.2.1 i (by omega)
        refine ⟨i, ⟨by omega, by omega, rfl⟩, ?_⟩
        refine ⟨fun g2 => ?_, fun g2 => ?_⟩
        · rw [b3] at g2
          rw [if_neg (fun q => g2 (by rw [q.2]))] at hfz
          exact c40 _ (by rw [hfz])
        · rw [b3] at g2
          have g2 := (nI_eq (by omega) (by omega)).mp g2
          rw [if_pos ⟨by omega, g2⟩] at hfz
          exact ih (i + 1) _ (nI_add i 1) (by omega) (by omega) hfz
  refine step [(16, [0, 1, 2, 3])] 5 ?_
  refine ⟨w, ⟨by omega, by omega, rfl⟩, w + 1, ⟨by omega, by omega, nI_add w 1⟩, ?_⟩
  show AT 16 0 0 σ z [(0, .ref 15), (1, .int (nI w)), (2, .int (σ 19 w)), (3, .int (σ 19 (w + 1)))] []
  rw [b2]
  exact loop1 (e - a) a _ b1 (by omega) (by omega) hfo.symm
end MW
