/-! The reference's words -/
theorem sm_int {c : Int32} : (if 65 ≤ c.toInt ∧ c.toInt ≤ 90 then c + nI 32 else c).toInt = if 65 ≤ c.toInt ∧ c.toInt ≤ 90 then c.toInt + 32 else c.toInt := by
  split
  · rename_i h
    have e : c = nI c.toInt.toNat := by
      apply Int32.toInt_inj.mp
      rw [nI_toInt (by omega)]
      omega
    rw [e, nI_add, nI_toInt (by omega), nI_toInt (by omega)]
    omega
  · rfl
theorem cM_wl : ∀ n, n < 256 → wl n = false → cM (nI n) = (decide (33 ≤ n) && decide (n ≤ 126)) := by decide +kernel
theorem and255 : ∀ n, n < 256 → sb_b n &&& nI 255 = nI n := by decide +kernel
/-- the words as the reference has them, within and at the end -/
def rM (σ : aS) (S : sS) : Prop := σ 15 9 = nI (S.2.1.length + (if S.2.2 < S.1.length then 1 else 0)) ∧ (∀ j, j < S.1.length → σ 18 j = nI (S.1.getD j 0)) ∧ (∀ j, j < S.2.1.length + (if S.2.2 < S.1.length then 1 else 0) → σ 19 j = nI (sta S.2.1 j))
def rF (σ : aS) (S : sS) : Prop := σ 15 9 = nI S.2.1.length ∧ (∀ j, j < S.1.length → σ 18 j = nI (S.1.getD j 0)) ∧ (∀ j, j ≤ S.2.1.length → σ 19 j = nI (sta S.2.1 j))
section Md
variable {X : aX} {ad : Nat → Nat} {L : List aC} {ns : List Nat} {σ : aS} {z : aZ} {K : aS → aZ → Option Value → Prop}
theorem t_X8_isWord (hX : a_okX X) {c : Int32} (hK : K σ z (some (.int (b2i (cL c || cD c))))) : a_Meets X ad L mX8_isWord σ z [.int c] K := by
  refine a_Meets.of hX oX8_isWord (al0 := [(0, .int c)]) rfl rfl (fun AT step => ?_)
  refine step [] 5 ?_
  refine t_X8_isDigit hX ?_
  refine ⟨fun g => ?_, fun g => ?_⟩
  · rw [b2i_0] at g
    exact k_b1 hK (by rw [(Bool.not_eq_false _).mp g]; simp)
  · rw [b2i_0] at g
    refine t_X8_small hX ?_
    refine ⟨fun g1 => ?_, fun g1 => ?_⟩
    · simp (disch := decide) only [Int32.lt_iff_toInt_lt, sm_int, nI_toInt] at g1
      refine k_b0 hK ?_
      rw [g]
      simp [cL]
      split at g1 <;> omega
    · simp (disch := decide) only [Int32.lt_iff_toInt_lt, sm_int, nI_toInt] at g1
      refine t_X8_small hX ?_
      refine ⟨fun g2 => ?_, fun g2 => ?_⟩
      · simp (disch := decide) only [Int32.lt_iff_toInt_lt, sm_int, nI_toInt] at g2
        refine k_b0 hK ?_
        rw [g]
        simp [cL]
        split at g1 <;> split at g2 <;> omega
      · simp (disch := decide) only [Int32.lt_iff_toInt_lt, sm_int, nI_toInt] at g2
        refine k_b1 hK ?_
        rw [g]
        simp [cL]
        split at g1 <;> split at g2 <;> omega
theorem t_X8_split (hX : a_okX X) {l : List Nat} {left : Nat} {sp : Nat → Bool} (hl : l.length ≤ 80) (hle : left ≤ l.length) (hc : ∀ x ∈ l, x < 256) (h1 : σ 15 2 = nI l.length) (h2 : σ 15 3 = nI left) (h3 : ∀ j, j < l.length → σ 16 j = sb_b (l.getD j 0)) (h4 : ∀ j, j < 127 → σ 17 j = b2i (sp j))
    (hK : ∀ σ', rF σ' (sSplit sp (l.drop left)) → (∀ i, i ≠ 15 → i ≠ 18 → i ≠ 19 → σ' i = σ i) → (∀ i, i ≠ 9 → σ' 15 i = σ 15 i) → K σ' z none) : a_Meets X ad (a_LL ns) mX8_split σ z [.ref 15] K := by
  refine a_Meets.of hX oX8_split (al0 := [(0, .ref 15)]) rfl rfl (fun AT step => ?_)
  have loop : ∀ (n i : Nat) (x y g : Int32) (S : sS) (σ1 : aS), x = nI i → y = nI S.1.length → g = b2i (decide (S.2.2 < S.1.length)) → l.length - i = n → i ≤ l.length → left ≤ i → sInv (i - left) S → rM σ1 S → sFin ((l.drop i).foldl (sStp sp) S) = sSplit sp (l.drop left) → (∀ q, q ≠ 15 → q ≠ 18 → q ≠ 19 → σ1 q = σ q) → (∀ q, q ≠ 9 → σ1 15 q = σ 15 q) →
      AT 14 0 0 σ1 z [(0, .ref 15), (1, .int y), (2, .int g), (3, .int x)] [] := by
    intro n
    induction n with
    | zero =>
      intro i x y g S σ1 hx hy hg hn hi hli hinv hr hfin hfr hfo
      subst hx
      subst hy
      have e : i = l.length := by omega
      subst e
      obtain ⟨i1, i2, i3, i4, i5, i6⟩ := id hinv
      obtain ⟨r1, r2, r3⟩ := id hr
      refine step [(14, [0, 1, 2, 3]), (119, [0, 1, 2, 3])] 5 ?_
      refine ⟨fun g => ?_, fun g => ?_⟩
      · simp only [List.drop_length, List.foldl_nil] at hfin
        refine ⟨_, ⟨by split <;> omega, by split <;> omega, r1⟩, ?_⟩
        refine hK _ ?_ (fun q g1 g2 g3 => ?_) (fun q g1 => ?_)
        · rw [← hfin]
          unfold sFin
          split
          · rename_i hb
            rw [if_pos hb] at r1 r3
            refine ⟨by simp [a_up, r1], fun j hj => by simp [a_up]; exact r2 j hj, fun j hj => ?_⟩
            simp only [List.length_append, List.length_singleton] at hj
            simp only [a_up, if_true]
            split
            · rename_i e
              rw [e, sta_last]
            · rw [r3 j (by omega), sta_app (by omega)]
          · rename_i hb
            rw [if_neg hb] at r1 r3
            refine ⟨by simp [a_up, r1], fun j hj => by simp [a_up]; exact r2 j hj, fun j hj => ?_⟩
            simp only [a_up, if_true]
            split
            · rename_i e
              rw [e, Nat.add_zero, ← i4]
              congr 1
              omega
            · exact r3 j (by omega)
        · rw [a_up_ne g3]
          exact hfr q g1 g2 g3
        · rw [a_up_ne (by decide)]
          exact hfo q g1
      · rw [show σ1 15 2 = σ 15 2 from hfo 2 (by decide), h1] at g
        exact absurd (nI_le (Nat.le_refl _) (by omega)) g
    | succ n ih =>
      intro i x y g S σ1 hx hy hg hn hi hli hinv hr hfin hfr hfo
      subst hx
      subst hy
      subst hg
      have hlt : i < l.length := by omega
      have hsi : σ1 16 i = sb_b (l.getD i 0) := by rw [hfr 16 (by decide) (by decide) (by decide), h3 i hlt]
      have hcl : l.getD i 0 < 256 := by
        rw [List.getD_eq_getElem?_getD, List.getElem?_eq_getElem hlt]
        exact hc _ (List.getElem_mem hlt)
      have hdr : l.drop i = l.getD i 0 :: l.drop (i + 1) := by
        rw [List.getD_eq_getElem?_getD, List.getElem?_eq_getElem hlt]
        exact List.drop_eq_getElem_cons hlt
      rw [hdr, List.foldl_cons] at hfin
      have hinv' := sInv_stp (sp := sp) hcl hinv
      rw [show i - left + 1 = i + 1 - left by omega] at hinv'
      generalize hce : l.getD i 0 = ch at hsi hcl hfin hinv'
      obtain ⟨i1, i2, i3, i4, i5, i6⟩ := id hinv
      obtain ⟨r1, r2, r3⟩ := id hr
      have nxt : ∀ (y g : Int32) (σ2 : aS), y = nI (sStp sp S ch).1.length → g = b2i (decide ((sStp sp S ch).2.2 < (sStp sp S ch).1.length)) → rM σ2 (sStp sp S ch) → (∀ q, q ≠ 15 → q ≠ 18 → q ≠ 19 → σ2 q = σ q) → (∀ q, q ≠ 9 → σ2 15 q = σ 15 q) → AT 119 0 0 σ2 z [(0, .ref 15), (1, .int y), (2, .int g), (3, .int (nI i))] [] := by
        intro y g σ2 hy hg hr2 hf2 hf3
        refine step [(14, [0, 1, 2, 3])] 5 ?_
        exact ih (i + 1) _ y g _ σ2 (nI_add i 1) hy hg (by omega) (by omega) (by omega) hinv' hr2 hfin hf2 hf3
      refine step [(14, [0, 1, 2, 3]), (119, [0, 1, 2, 3]), (66, [0, 1, 2, 3, 4]), (117, [0, 1, 2, 3])] 5 ?_
      refine ⟨fun g => ?_, fun _ => ?_⟩
      · rw [show σ1 15 2 = σ 15 2 from hfo 2 (by decide), h1, nI_leI (by omega) (by omega)] at g
        omega
      refine ⟨i, ⟨by omega, by omega, rfl⟩, ?_⟩
      show a_Meets _ _ _ _ _ _ [.int (σ1 16 i &&& nI 255)] _
      rw [hsi, and255 ch hcl]
      refine t_X8_isWord hX ?_
      refine ⟨fun g => ?_, fun g => ?_⟩
      · -- no sign of a word
        rw [b2i_0] at g
        have hw : wl ch = false := g
        have sp0 : iS sp ch = true → AT 117 0 0 σ1 z [(0, .ref 15), (1, .int (nI S.1.length)), (2, .int (b2i (decide (S.2.2 < S.1.length)))), (3, .int (nI i))] [] := by
          intro hs
          have hs : sStp sp S ch = sFin S := by simp [sStp, sFin, hw, hs]
          refine step [(119, [0, 1, 2, 3])] 5 ?_
          refine nxt _ _ _ ?_ ?_ ?_ hfr hfo
          · rw [hs]; unfold sFin; split <;> rfl
          · rw [hs]
            unfold sFin
            split
            · simp [b2i]; rfl
            · rename_i hb
              simp [hb, b2i]; rfl
          · rw [hs]
            unfold sFin
            split
            · rename_i hb
              rw [if_pos hb] at r1 r3
              refine ⟨by simp [r1], r2, fun j hj => ?_⟩
              simp at hj
              rw [r3 j hj, sta_app (by omega)]
            · exact hr
        have no0 : iS sp ch = false → AT 119 0 0 σ1 z [(0, .ref 15), (1, .int (nI S.1.length)), (2, .int (b2i (decide (S.2.2 < S.1.length)))), (3, .int (nI i))] [] := by
          intro hs
          have hs : sStp sp S ch = S := by simp [sStp, hw, hs]
          exact nxt _ _ _ (by rw [hs]) (by rw [hs]) (by rw [hs]; exact hr) hfr hfo
        have hM := cM_wl ch hcl hw
        refine ⟨fun g3 => ?_, fun g3 => ?_⟩
        · have e : ch = 32 := (nI_eq (by omega) (by omega)).mp g3
          exact sp0 (by simp [iS, e])
        · have e : ¬ ch = 32 := fun q => g3 (by rw [q])
          refine ⟨fun g4 => ?_, fun g4 => ?_⟩
          · rw [nI_leI (by omega) (by omega)] at g4
            exact no0 (by simp [iS, e, hM]; omega)
          · rw [nI_leI (by omega) (by omega)] at g4
            refine ⟨fun g5 => ?_, fun g5 => ?_⟩
            · rw [nI_leI (by omega) (by omega)] at g5
              exact no0 (by simp [iS, e, hM]; omega)
            · rw [nI_leI (by omega) (by omega)] at g5
              refine ⟨ch, ⟨by omega, by omega, rfl⟩, ?_⟩
              have h17 : σ1 17 ch = b2i (sp ch) := by rw [hfr 17 (by decide) (by decide) (by decide)]; exact h4 ch (by omega)
              refine ⟨fun g6 => ?_, fun g6 => ?_⟩
              · rw [h17, b2i_0] at g6
                exact no0 (by simp [iS, e, g6])
              · rw [h17, b2i_0] at g6
                exact sp0 (by simp only [iS, hM]; rw [(Bool.not_eq_false _).mp g6]; simp; omega)
      · -- a sign of a word
        rw [b2i_0] at g
        have hw : wl ch = true := (Bool.not_eq_false _).mp g
        have hs : sStp sp S ch = (S.1 ++ [lo ch], S.2.1, S.2.2) := by simp [sStp, hw]
        have put : ∀ σ2 : aS, σ2 15 9 = nI (S.2.1.length + 1) → (∀ j, j < S.1.length → σ2 18 j = nI (S.1.getD j 0)) → (∀ j, j < S.2.1.length + 1 → σ2 19 j = nI (sta S.2.1 j)) → (∀ q, q ≠ 15 → q ≠ 18 → q ≠ 19 → σ2 q = σ q) → (∀ q, q ≠ 9 → σ2 15 q = σ 15 q) →
            ∀ gg : Int32, AT 66 0 0 σ2 z [(0, .ref 15), (1, .int (nI S.1.length)), (2, .int gg), (3, .int (nI i)), (4, .int (nI ch))] [] := by
          intro σ2 e1 e2 e3 e4 e5 gg
          refine step [(119, [0, 1, 2, 3])] 5 ?_
          refine t_X8_small hX ?_
          rw [sm_8 ch hcl]
          refine ⟨S.1.length, ⟨by omega, by omega, rfl⟩, ?_⟩
          have hlo := lo_word ch hcl hw
          refine nxt _ _ _ (by rw [hs]; simp [nI_add]) (by rw [hs]; simp [show S.2.2 < S.1.length + 1 by omega]; rfl) ?_ (fun q g1 g2 g3 => ?_) (fun q g1 => ?_)
          · rw [nar_by _ hlo.2, hs]
            refine ⟨?_, fun j hj => ?_, fun j hj => ?_⟩
            · simp only [List.length_append, List.length_singleton, show S.2.2 < S.1.length + 1 by omega, if_true]
              simp [a_up, e1]
            · simp only [List.length_append, List.length_singleton] at hj
              rcases Nat.lt_or_ge j S.1.length with q | q
              · simp only [a_up, if_true, show j ≠ S.1.length by omega, if_false]
                rw [e2 j q]
                simp [List.getD, List.getElem?_append_left q]
              · have e : j = S.1.length := by omega
                subst e
                simp [a_up, List.getD]
            · simp only [List.length_append, List.length_singleton, show S.2.2 < S.1.length + 1 by omega, if_true] at hj
              simp only [a_up, show (19 : Nat) ≠ 18 by decide, if_false]
              exact e3 j hj
          · rw [a_up_ne g2]
            exact e4 q g1 g2 g3
          · rw [a_up_ne (by decide)]
            exact e5 q g1
        refine ⟨fun g2 => ?_, fun g2 => ?_⟩
        · rw [b2i_0] at g2
          have hb : S.2.2 < S.1.length := by simpa using g2
          rw [if_pos hb] at r1 r3
          exact put σ1 r1 r2 r3 hfr hfo _
        · rw [b2i_0] at g2
          have hb : ¬ S.2.2 < S.1.length := by simpa using g2
          rw [if_neg hb] at r1 r3
          refine ⟨S.2.1.length, ⟨by omega, by omega, r1⟩, ?_⟩
          refine put _ ?_ (fun j hj => by simp [a_up]; exact r2 j hj) (fun j hj => ?_) (fun q g1 g2 g3 => ?_) (fun q g1 => ?_) _
          · simp [a_up, r1, nI_add]
          · simp only [a_up, show (19 : Nat) ≠ 15 by decide, if_false, if_true]
            split
            · rename_i e
              rw [e, ← i4]
              congr 1
              omega
            · exact r3 j (by omega)
          · rw [a_up_ne g1, a_up_ne g3]
            exact hfr q g1 g2 g3
          · simp only [a_up, g1, if_true, if_false, show (15 : Nat) ≠ 19 by decide]
            exact hfo q g1
  refine step [(14, [0, 1, 2, 3]), (119, [0, 1, 2, 3])] 5 ?_
  refine loop _ left _ _ _ ([], [], 0) _ h2 rfl rfl rfl hle (Nat.le_refl _) (by rw [Nat.sub_self]; exact sInv_0) ?_ rfl (fun q g1 g2 g3 => ?_) (fun q g1 => ?_)
  · exact ⟨by simp [a_up], fun j hj => by simp at hj, fun j hj => by simp at hj⟩
  · rw [a_up_ne g1]
  · simp [a_up, g1]
end Md
