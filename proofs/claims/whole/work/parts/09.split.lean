/-! The words of a title: what both sides make of it -/
def wl (n : Nat) : Bool := cL (nI n) || cD (nI n)
def lo (n : Nat) : Nat := if 65 ≤ n ∧ n ≤ 90 then n + 32 else n
def iS (sp : Nat → Bool) (n : Nat) : Bool := n == 32 || (cM (nI n) && sp n)
/-- letters, ends of the words, end of the last word -/
abbrev sS : Type := List Nat × List Nat × Nat
def sStp (sp : Nat → Bool) (S : sS) (c : Nat) : sS := if wl c then (S.1 ++ [lo c], S.2.1, S.2.2) else if iS sp c then (if S.2.2 < S.1.length then (S.1, S.2.1 ++ [S.1.length], S.1.length) else S) else S
def sFin (S : sS) : sS := if S.2.2 < S.1.length then (S.1, S.2.1 ++ [S.1.length], S.1.length) else S
def sSplit (sp : Nat → Bool) (l : List Nat) : sS := sFin (l.foldl (sStp sp) ([], [], 0))
def sta (es : List Nat) (k : Nat) : Nat := if k = 0 then 0 else es.getD (k - 1) 0
/-- m signs have been read -/
def sInv (m : Nat) (S : sS) : Prop := S.2.1.length ≤ S.2.2 ∧ S.2.2 ≤ S.1.length ∧ S.1.length + S.2.1.length ≤ m ∧ S.2.2 = sta S.2.1 S.2.1.length ∧ (∀ k, k < S.2.1.length → sta S.2.1 k < sta S.2.1 (k + 1)) ∧ (∀ x ∈ S.1, 48 ≤ x ∧ x < 128)
theorem sta_app {es : List Nat} {x k : Nat} (h : k ≤ es.length) : sta (es ++ [x]) k = sta es k := by
  unfold sta
  split
  · rfl
  · simp [List.getD, List.getElem?_append_left (show k - 1 < es.length by omega)]
theorem sta_last {es : List Nat} {x : Nat} : sta (es ++ [x]) (es.length + 1) = x := by
  simp [sta, List.getD]
theorem lo_word : ∀ c, c < 256 → wl c = true → 48 ≤ lo c ∧ lo c < 128 := by decide +kernel
theorem sInv_0 : sInv 0 ([], [], 0) := by simp [sInv, sta]
theorem sInv_flush {m : Nat} {S : sS} (h : sInv m S) (hb : S.2.2 < S.1.length) : sInv (m + 1) (S.1, S.2.1 ++ [S.1.length], S.1.length) := by
  obtain ⟨h1, h2, h3, h4, h5, h6⟩ := h
  refine ⟨by simp; omega, Nat.le_refl _, by simp; omega, by simp [sta_last], fun k hk => ?_, h6⟩
  dsimp only at hk ⊢
  simp only [List.length_append, List.length_singleton] at hk
  rcases Nat.lt_or_ge k S.2.1.length with g | g
  · rw [sta_app (by omega), sta_app (by omega)]
    exact h5 k g
  · have e : k = S.2.1.length := by omega
    subst e
    rw [sta_app (Nat.le_refl _), sta_last, ← h4]
    exact hb
theorem sInv_mono {m n : Nat} {S : sS} (h : sInv m S) (hm : m ≤ n) : sInv n S := by
  obtain ⟨h1, h2, h3, h4, h5, h6⟩ := h
  exact ⟨h1, h2, by omega, h4, h5, h6⟩
theorem sInv_stp {m : Nat} {S : sS} {sp : Nat → Bool} {c : Nat} (hc : c < 256) (h : sInv m S) : sInv (m + 1) (sStp sp S c) := by
  unfold sStp
  split
  · rename_i hw
    obtain ⟨h1, h2, h3, h4, h5, h6⟩ := h
    refine ⟨h1, by simp; omega, by simp; omega, h4, h5, fun x hx => ?_⟩
    rcases List.mem_append.mp hx with g | g
    · exact h6 x g
    · rw [List.mem_singleton.mp g]
      exact lo_word c hc hw
  · split
    · split
      · rename_i hb
        exact sInv_flush h hb
      · exact sInv_mono h (by omega)
    · exact sInv_mono h (by omega)
theorem sInv_fin {m : Nat} {S : sS} (h : sInv m S) : sInv (m + 1) (sFin S) := by
  unfold sFin
  split
  · rename_i hb
    exact sInv_flush h hb
  · exact sInv_mono h (by omega)
theorem sInv_fold {sp : Nat → Bool} : ∀ (l : List Nat) (m : Nat) (S : sS), (∀ x ∈ l, x < 256) → sInv m S → sInv (m + l.length) (l.foldl (sStp sp) S) := by
  intro l
  induction l with
  | nil => intro m S _ h; exact h
  | cons c r ih =>
    intro m S hl h
    have := ih (m + 1) (sStp sp S c) (fun x hx => hl x (List.mem_cons_of_mem _ hx)) (sInv_stp (hl c List.mem_cons_self) h)
    simp only [List.foldl_cons, List.length_cons]
    rw [show m + (r.length + 1) = m + 1 + r.length by omega]
    exact this
theorem nar_ch : ∀ n, n < 256 → vp_nar .char ((nI n).toUInt32 % 65536).toInt32 = nI n := by decide +kernel
theorem nar_by : ∀ n, n < 128 → vp_nar .byte (nI n).toInt8.toInt32 = nI n := by decide +kernel
theorem sm_7 : ∀ n, n < 256 → (if 65 ≤ (nI n).toInt ∧ (nI n).toInt ≤ 90 then nI n - nI 65 + nI 97 else nI n) = nI (lo n) := by decide +kernel
theorem sm_8 : ∀ n, n < 256 → (if 65 ≤ (nI n).toInt ∧ (nI n).toInt ≤ 90 then nI n + nI 32 else nI n) = nI (lo n) := by decide +kernel
theorem lo_256 : ∀ n, n < 256 → lo n < 256 := by decide +kernel
theorem cMn : ∀ n, n < 256 → (nI n).toInt.toNat = n := by decide +kernel
/-- the words as FilingOrder has them -/
def rW (σ : aS) (S : sS) : Prop := σ 5 2 = nI S.1.length ∧ σ 5 3 = nI S.2.1.length ∧ (∀ j, j < S.1.length → σ 6 j = nI (S.1.getD j 0)) ∧ (∀ j, j < S.2.1.length → σ 7 j = nI (S.2.1.getD j 0))
theorem rW_put {σ : aS} {S : sS} {x : Nat} (h : rW σ S) : rW (a_up (a_up σ 6 S.1.length (nI x)) 5 2 (nI (S.1.length + 1))) (S.1 ++ [x], S.2.1, S.2.2) := by
  obtain ⟨h1, h2, h3, h4⟩ := h
  refine ⟨by simp [a_up], by simp [a_up, h2], fun j hj => ?_, fun j hj => by simp [a_up]; exact h4 j hj⟩
  simp only [List.length_append, List.length_singleton] at hj
  rcases Nat.lt_or_ge j S.1.length with g | g
  · simp only [a_up, show (6 : Nat) ≠ 5 by decide, if_false, if_true, show j ≠ S.1.length by omega]
    rw [h3 j g]
    simp [List.getD, List.getElem?_append_left g]
  · have e : j = S.1.length := by omega
    subst e
    simp [a_up, List.getD]
theorem rW_end {σ : aS} {S : sS} {b : Nat} (h : rW σ S) : rW (a_up (a_up σ 7 S.2.1.length (nI S.1.length)) 5 3 (nI (S.2.1.length + 1))) (S.1, S.2.1 ++ [S.1.length], b) := by
  obtain ⟨h1, h2, h3, h4⟩ := h
  refine ⟨by simp [a_up, h1], by simp [a_up], fun j hj => by simp [a_up]; exact h3 j hj, fun j hj => ?_⟩
  simp only [List.length_append, List.length_singleton] at hj
  rcases Nat.lt_or_ge j S.2.1.length with g | g
  · simp only [a_up, show (7 : Nat) ≠ 5 by decide, if_false, if_true, show j ≠ S.2.1.length by omega]
    rw [h4 j g]
    simp [List.getD, List.getElem?_append_left g]
  · have e : j = S.2.1.length := by omega
    subst e
    simp [a_up, List.getD]
theorem rW_sta {σ : aS} {S : sS} (h : rW σ S) {k : Nat} (hk : k ≤ S.2.1.length) : (if k = 0 then nI 0 else σ 7 (k - 1)) = nI (sta S.2.1 k) := by
  unfold sta
  split
  · rfl
  · exact h.2.2.2 _ (by omega)
section Sp
variable {X : aX} {ad : Nat → Nat} {ns : List Nat} {σ : aS} {z : aZ} {K : aS → aZ → Option Value → Prop}
theorem t_endWord (hX : a_okX X) {S : sS} {m : Nat} (hi : sInv m S) (hm : m ≤ 80) (hr : rW σ S) (hK : ∀ σ', rW σ' (sFin S) → (∀ i, i ≠ 5 → i ≠ 7 → σ' i = σ i) → K σ' z none) : a_Meets X ad (a_LL ns) mX6_endWord σ z [.ref 5] K := by
  obtain ⟨h1, h2, h3, h4, h5, h6⟩ := id hi
  obtain ⟨r1, r2, r3, r4⟩ := id hr
  refine t_X6_endWord hX (n := S.1.length) (w := S.2.1.length) (b := S.2.2) (by omega) h2 (by omega) (by omega) r1 r2 (by rw [h4]; exact rW_sta hr (Nat.le_refl _)) ?_
  refine hK _ ?_ ?_
  · unfold sFin
    split
    · exact rW_end hr
    · exact hr
  · intro i g1 g2
    funext b
    split
    · simp [a_up, g1, g2]
    · rfl
theorem t_X6_read (hX : a_okX X) {l : List Nat} {left : Nat} {sp : Nat → Bool} (hl : l.length ≤ 80) (hle : left ≤ l.length) (hc : ∀ x ∈ l, x < 256) (h1 : σ 1 1 = nI l.length) (h2 : σ 1 2 = nI left) (h3 : ∀ j, j < l.length → σ 2 j = nI (l.getD j 0)) (h4 : ∀ j, j < 127 → σ 4 j = b2i (sp j))
    (hK : ∀ σ', rW σ' (sSplit sp (l.drop left)) → (∀ i, i ≠ 5 → i ≠ 6 → i ≠ 7 → σ' i = σ i) → K σ' z none) : a_Meets X ad (a_LL ns) mX6_read σ z [.ref 5, .ref 1, .ref 3] K := by
  refine a_Meets.of hX oX6_read (al0 := [(0, .ref 5), (1, .ref 1), (2, .ref 3)]) rfl rfl (fun AT step => ?_)
  have loop : ∀ (n i : Nat) (x : Int32) (S : sS) (σ1 : aS), x = nI i → l.length - i = n → i ≤ l.length → left ≤ i → sInv (i - left) S → rW σ1 S → sFin ((l.drop i).foldl (sStp sp) S) = sSplit sp (l.drop left) → (∀ q, q ≠ 5 → q ≠ 6 → q ≠ 7 → σ1 q = σ q) → AT 15 0 0 σ1 z [(0, .ref 5), (1, .ref 1), (2, .ref 3), (3, .int x)] [] := by
    intro n
    induction n with
    | zero =>
      intro i x S σ1 hx hn hi hli hinv hr hfin hfr
      subst hx
      have e : i = l.length := by omega
      subst e
      refine step [(15, [0, 1, 2, 3])] 5 ?_
      refine ⟨fun g => ?_, fun g => ?_⟩
      · simp only [List.drop_length, List.foldl_nil] at hfin
        refine t_endWord hX hinv (by omega) hr (fun σ' q1 q2 => ?_)
        rw [hfin] at q1
        refine hK σ' q1 (fun i g1 g2 g3 => ?_)
        rw [q2 i g1 g3, hfr i g1 g2 g3]
      · rw [show σ1 1 1 = σ 1 1 by rw [hfr 1 (by decide) (by decide) (by decide)], h1] at g
        exact absurd (nI_le (Nat.le_refl _) (by omega)) g
    | succ n ih =>
      intro i x S σ1 hx hn hi hli hinv hr hfin hfr
      subst hx
      have hlt : i < l.length := by omega
      have hsi : σ1 2 i = nI (l.getD i 0) := by rw [hfr 2 (by decide) (by decide) (by decide), h3 i hlt]
      have hcl : l.getD i 0 < 256 := by
        rw [List.getD_eq_getElem?_getD, List.getElem?_eq_getElem hlt]
        exact hc _ (List.getElem_mem hlt)
      have hdr : l.drop i = l.getD i 0 :: l.drop (i + 1) := by
        rw [List.getD_eq_getElem?_getD, List.getElem?_eq_getElem hlt]
        exact List.drop_eq_getElem_cons hlt
      rw [hdr, List.foldl_cons] at hfin
      have hinv' := sInv_stp (sp := sp) hcl hinv
      rw [show i - left + 1 = i + 1 - left by omega] at hinv'
      generalize hce : l.getD i 0 = ch at hsi hcl hfin hinv'
      obtain ⟨i1, i2, i3, i4, i5, i6⟩ := id hinv
      -- a sign of a word
      have word : ∀ m, wl ch = true → a_run X ad (a_LL ns) mX6_read K AT [(15, [0, 1, 2, 3])] (a_jmp X ad (a_LL ns) mX6_read K pX6_read AT [(15, [0, 1, 2, 3])] (m + 3)) (a_suf pX6_read 0 46) 46 0 0 σ1 z [(0, .ref 5), (1, .ref 1), (2, .ref 3), (3, .int (nI i)), (4, .int (nI ch))] [] := by
        intro m hw
        refine t_X7_small hX ?_
        rw [sm_7 ch hcl]
        refine t_X6_put hX (n := S.1.length) (by omega) hr.1 ?_
        rw [nar_ch _ (lo_256 ch hcl)]
        have hs : sStp sp S ch = (S.1 ++ [lo ch], S.2.1, S.2.2) := by simp [sStp, hw]
        refine ih (i + 1) _ (sStp sp S ch) _ (nI_add i 1) (by omega) (by omega) (by omega) hinv' (by rw [hs]; exact rW_put hr) hfin (fun q g1 g2 g3 => ?_)
        funext b
        simp [a_up, g1, g2, hfr q g1 g2 g3]
      -- a space
      have space : ∀ m, wl ch = false → iS sp ch = true → a_run X ad (a_LL ns) mX6_read K AT [(15, [0, 1, 2, 3])] (a_jmp X ad (a_LL ns) mX6_read K pX6_read AT [(15, [0, 1, 2, 3])] (m + 3)) (a_suf pX6_read 0 74) 74 0 0 σ1 z [(0, .ref 5), (1, .ref 1), (2, .ref 3), (3, .int (nI i)), (4, .int (nI ch))] [] := by
        intro m hw hs
        refine t_endWord hX hinv (by omega) hr (fun σ' q1 q2 => ?_)
        have hs : sStp sp S ch = sFin S := by simp [sStp, sFin, hw, hs]
        refine ih (i + 1) _ (sStp sp S ch) _ (nI_add i 1) (by omega) (by omega) (by omega) hinv' (by rw [hs]; exact q1) hfin (fun q g1 g2 g3 => ?_)
        rw [q2 q g1 g3, hfr q g1 g2 g3]
      -- neither
      have none' : ∀ m, wl ch = false → iS sp ch = false → a_run X ad (a_LL ns) mX6_read K AT [(15, [0, 1, 2, 3])] (a_jmp X ad (a_LL ns) mX6_read K pX6_read AT [(15, [0, 1, 2, 3])] (m + 3)) (a_suf pX6_read 0 78) 78 0 0 σ1 z [(0, .ref 5), (1, .ref 1), (2, .ref 3), (3, .int (nI i)), (4, .int (nI ch))] [] := by
        intro m hw hs
        have hs : sStp sp S ch = S := by simp [sStp, hw, hs]
        exact ih (i + 1) _ (sStp sp S ch) _ (nI_add i 1) (by omega) (by omega) (by omega) hinv' (by rw [hs]; exact hr) hfin hfr
      refine step [(15, [0, 1, 2, 3])] 5 ?_
      refine ⟨fun g => ?_, fun _ => ?_⟩
      · rw [show σ1 1 1 = σ 1 1 by rw [hfr 1 (by decide) (by decide) (by decide)], h1, nI_leI (by omega) (by omega)] at g
        omega
      refine t_X5_signAt hX (by omega) ?_
      show a_Meets _ _ _ _ _ _ [.int (σ1 2 i)] _
      rw [hsi]
      refine t_X7_isLetter hX ?_
      refine ⟨fun g => ?_, fun g => ?_⟩
      · have hw : wl ch = true := by
          cases h : cL (nI ch) with
          | true => simp [wl, h]
          | false => rw [h] at g; exact absurd rfl g
        exact word 1 hw
      · rw [b2i_0] at g
        refine t_X7_isDigit hX ?_
        refine ⟨fun g2 => ?_, fun g2 => ?_⟩
        · rw [b2i_0] at g2
          have hw : wl ch = false := by simp [wl, g, g2]
          refine ⟨fun g3 => ?_, fun g3 => ?_⟩
          · have e : ch = 32 := (nI_eq (by omega) (by omega)).mp g3
            exact space 0 hw (by simp [iS, e])
          · have e : ¬ ch = 32 := fun q => g3 (by rw [q])
            refine t_X2_isSpace hX (f := sp) (fun j hj => by rw [hfr 4 (by decide) (by decide) (by decide)]; exact h4 j hj) ?_
            rw [cMn ch hcl]
            refine ⟨fun g4 => ?_, fun g4 => ?_⟩
            · rw [b2i_0] at g4
              exact none' 0 hw (by simp [iS, e, g4])
            · rw [b2i_0] at g4
              exact space 1 hw (by simp only [iS]; rw [(Bool.not_eq_false _).mp g4]; simp)
        · rw [b2i_0] at g2
          exact word 2 (by simp only [wl]; rw [(Bool.not_eq_false _).mp g2]; simp)
  refine step [(15, [0, 1, 2, 3])] 5 ?_
  refine loop _ left _ ([], [], 0) _ h2 rfl hle (Nat.le_refl _) (by rw [Nat.sub_self]; exact sInv_0) ?_ rfl (fun q g1 g2 g3 => ?_)
  · exact ⟨by simp [a_up], by simp [a_up], fun j hj => by simp at hj, fun j hj => by simp at hj⟩
  · funext b
    simp [a_up, g1]
end Sp
