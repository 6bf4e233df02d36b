/-! Small methods -/
def b2i (b : Bool) : Int32 := if b then 1 else 0
theorem b2i_01 (b : Bool) : b2i b = 0 ∨ b2i b = 1 := by cases b <;> simp [b2i]
theorem b2i_t : b2i true = 1 := rfl
theorem b2i_f : b2i false = 0 := rfl
theorem b2i_0 {b : Bool} : b2i b = 0 ↔ b = false := by cases b <;> simp [b2i] <;> decide
theorem b2i_1 {b : Bool} : b2i b = 1 ↔ b = true := by cases b <;> simp [b2i] <;> decide
theorem b2i_nar (b : Bool) : vp_nar .boolean (b2i b) = b2i b := by cases b <;> rfl
def cD (c : Int32) : Bool := decide (48 ≤ c.toInt) && decide (c.toInt ≤ 57)
def cL (c : Int32) : Bool := (decide (97 ≤ c.toInt) && decide (c.toInt ≤ 122)) || (decide (65 ≤ c.toInt) && decide (c.toInt ≤ 90))
def cM (c : Int32) : Bool := decide (33 ≤ c.toInt) && decide (c.toInt ≤ 126) && !cL c && !cD c
theorem k_b1 {K : aS → aZ → Option Value → Prop} {σ : aS} {z : aZ} {b : Bool} (hK : K σ z (some (.int (b2i b)))) (h : b = true) : a_bl (nI 1) (K σ z (some (.int (nI 1)))) := ⟨Or.inr rfl, by subst h; exact hK⟩
theorem k_b0 {K : aS → aZ → Option Value → Prop} {σ : aS} {z : aZ} {b : Bool} (hK : K σ z (some (.int (b2i b)))) (h : b = false) : a_bl (nI 0) (K σ z (some (.int (nI 0)))) := ⟨Or.inl rfl, by subst h; exact hK⟩
section Leaf
variable {X : aX} {ad : Nat → Nat} {L : List aC} {ns : List Nat} {σ : aS} {z : aZ} {K : aS → aZ → Option Value → Prop}
theorem t_X7_isLetter (hX : a_okX X) {c : Int32} (hK : K σ z (some (.int (b2i (cL c))))) : a_Meets X ad L mX7_isLetter σ z [.int c] K := by
  refine a_Meets.of hX oX7_isLetter (al0 := [(0, .int c)]) rfl rfl (fun AT step => ?_)
  refine step [] 9 ?_
  refine ⟨fun g1 => ⟨fun g2 => ?_, fun g2 => ⟨fun g3 => ?_, fun g3 => ?_⟩⟩, fun g1 => ⟨fun g2 => ?_, fun g2 => ⟨fun g3 => ?_, fun g3 => ⟨fun g4 => ?_, fun g4 => ?_⟩⟩⟩⟩
  all_goals simp (disch := decide) only [Int32.lt_iff_toInt_lt, Int32.le_iff_toInt_le, nI_toInt] at *
  · exact k_b0 hK (by simp [cL]; omega)
  · exact k_b0 hK (by simp [cL]; omega)
  · exact k_b1 hK (by simp [cL]; omega)
  · exact k_b1 hK (by simp [cL]; omega)
  · exact k_b0 hK (by simp [cL]; omega)
  · exact k_b0 hK (by simp [cL]; omega)
  · exact k_b1 hK (by simp [cL]; omega)
theorem t_X7_isDigit (hX : a_okX X) {c : Int32} (hK : K σ z (some (.int (b2i (cD c))))) : a_Meets X ad L mX7_isDigit σ z [.int c] K := by
  refine a_Meets.of hX oX7_isDigit (al0 := [(0, .int c)]) rfl rfl (fun AT step => ?_)
  refine step [] 9 ?_
  refine ⟨fun g1 => ?_, fun g1 => ⟨fun g2 => ?_, fun g2 => ?_⟩⟩
  all_goals simp (disch := decide) only [Int32.lt_iff_toInt_lt, Int32.le_iff_toInt_le, nI_toInt] at *
  · exact k_b0 hK (by simp [cD]; omega)
  · exact k_b0 hK (by simp [cD]; omega)
  · exact k_b1 hK (by simp [cD]; omega)
theorem t_X8_isDigit (hX : a_okX X) {c : Int32} (hK : K σ z (some (.int (b2i (cD c))))) : a_Meets X ad L mX8_isDigit σ z [.int c] K := by
  refine a_Meets.of hX oX8_isDigit (al0 := [(0, .int c)]) rfl rfl (fun AT step => ?_)
  refine step [] 9 ?_
  refine ⟨fun g1 => ?_, fun g1 => ⟨fun g2 => ?_, fun g2 => ?_⟩⟩
  all_goals simp (disch := decide) only [Int32.lt_iff_toInt_lt, Int32.le_iff_toInt_le, nI_toInt] at *
  · exact k_b0 hK (by simp [cD]; omega)
  · exact k_b0 hK (by simp [cD]; omega)
  · exact k_b1 hK (by simp [cD]; omega)
theorem t_X7_isMark (hX : a_okX X) {c : Int32} (hK : K σ z (some (.int (b2i (cM c))))) : a_Meets X ad L mX7_isMark σ z [.int c] K := by
  refine a_Meets.of hX oX7_isMark (al0 := [(0, .int c)]) rfl rfl (fun AT step => ?_)
  refine step [] 9 ?_
  refine ⟨fun g1 => ?_, fun g1 => ⟨fun g2 => ?_, fun g2 => ?_⟩⟩
  · simp (disch := decide) only [Int32.lt_iff_toInt_lt, Int32.le_iff_toInt_le, nI_toInt] at g1
    exact k_b0 hK (by simp [cM]; omega)
  · simp (disch := decide) only [Int32.lt_iff_toInt_lt, Int32.le_iff_toInt_le, nI_toInt] at g1 g2
    exact k_b0 hK (by simp [cM]; omega)
  · simp (disch := decide) only [Int32.lt_iff_toInt_lt, Int32.le_iff_toInt_le, nI_toInt] at g1 g2
    refine t_X7_isLetter hX ?_
    refine ⟨fun g3 => ?_, fun g3 => ?_⟩
    · have h3 : cL c = true := by cases h : cL c <;> simp_all [b2i]
      exact k_b0 hK (by simp [cM, h3])
    · rw [b2i_0] at g3
      refine t_X7_isDigit hX ?_
      refine ⟨fun g4 => ?_, fun g4 => ?_⟩
      · have h4 : cD c = true := by cases h : cD c <;> simp_all [b2i]
        exact k_b0 hK (by simp [cM, h4])
      · rw [b2i_0] at g4
        exact k_b1 hK (by simp [cM, g3, g4]; omega)
theorem t_X7_small (hX : a_okX X) {c : Int32} (hK : K σ z (some (.int (if 65 ≤ c.toInt ∧ c.toInt ≤ 90 then c - nI 65 + nI 97 else c)))) : a_Meets X ad L mX7_small σ z [.int c] K := by
  refine a_Meets.of hX oX7_small (al0 := [(0, .int c)]) rfl rfl (fun AT step => ?_)
  refine step [] 9 ?_
  refine ⟨fun g1 => ?_, fun g1 => ⟨fun g2 => ?_, fun g2 => ?_⟩⟩
  all_goals simp (disch := decide) only [Int32.lt_iff_toInt_lt, Int32.le_iff_toInt_le, nI_toInt] at *
  · rw [if_neg (by omega)] at hK; exact hK
  · rw [if_neg (by omega)] at hK; exact hK
  · rw [if_pos (by omega)] at hK; exact hK
theorem t_X8_small (hX : a_okX X) {c : Int32} (hK : K σ z (some (.int (if 65 ≤ c.toInt ∧ c.toInt ≤ 90 then c + nI 32 else c)))) : a_Meets X ad L mX8_small σ z [.int c] K := by
  refine a_Meets.of hX oX8_small (al0 := [(0, .int c)]) rfl rfl (fun AT step => ?_)
  refine step [] 9 ?_
  refine ⟨fun g1 => ?_, fun g1 => ⟨fun g2 => ?_, fun g2 => ?_⟩⟩
  all_goals simp (disch := decide) only [Int32.lt_iff_toInt_lt, Int32.le_iff_toInt_le, nI_toInt] at *
  · rw [if_neg (by omega)] at hK; exact hK
  · rw [if_neg (by omega)] at hK; exact hK
  · rw [if_pos (by omega)] at hK; exact hK
theorem t_X5_collect (hX : a_okX X) {c : Int32} {n : Nat} (hn : n ≤ 80) (h1 : σ 1 1 = nI n)
    (hK : K (if n < 80 then a_up (a_up σ 2 n (vp_nar .char (c.toUInt32 % 65536).toInt32)) 1 1 (nI (n + 1)) else σ) z none) : a_Meets X ad (a_LL ns) mX5_collect σ z [.ref 1, .int c] K := by
  refine a_Meets.of hX oX5_collect (al0 := [(0, .ref 1), (1, .int c)]) rfl rfl (fun AT step => ?_)
  refine step [] 5 ?_
  refine ⟨fun g => ?_, fun g => ?_⟩
  · rw [h1, nI_leI (by omega) (by omega)] at g
    rw [if_neg (by omega)] at hK
    exact hK
  · rw [h1, nI_leI (by omega) (by omega)] at g
    rw [if_pos (by omega)] at hK
    refine ⟨n, ⟨by omega, by omega, h1⟩, ?_⟩
    show K _ _ _
    rw [show a_up σ 2 n (vp_nar .char (c.toUInt32 % 65536).toInt32) 1 1 + nI 1 = nI (n + 1) by simp [a_up, h1, nI_add]]
    exact hK
theorem t_X1_clear (hX : a_okX X) (hK : K (a_up σ 9 1 (nI 0)) z none) : a_Meets X ad (a_LL ns) mX1_clear σ z [.ref 9] K := by
  refine a_Meets.of hX oX1_clear (al0 := [(0, .ref 9)]) rfl rfl (fun AT step => ?_)
  refine step [] 5 ?_
  exact hK
theorem t_X3_clear (hX : a_okX X) (hK : K (a_up σ 11 3 (nI 0)) z none) : a_Meets X ad (a_LL ns) mX3_clear σ z [.ref 11] K := by
  refine a_Meets.of hX oX3_clear (al0 := [(0, .ref 11)]) rfl rfl (fun AT step => ?_)
  refine step [] 5 ?_
  exact hK
theorem t_X5_clear (hX : a_okX X) (hK : K (a_up (a_up σ 1 1 (nI 0)) 1 2 (nI 0)) z none) : a_Meets X ad (a_LL ns) mX5_clear σ z [.ref 1] K := by
  refine a_Meets.of hX oX5_clear (al0 := [(0, .ref 1)]) rfl rfl (fun AT step => ?_)
  refine step [] 5 ?_
  exact hK
theorem t_X1_put (hX : a_okX X) {b : Int32} {n : Nat} (hn : n < 240) (h1 : σ 9 1 = nI n)
    (hK : K (a_up (a_up σ 10 n (vp_nar .byte b.toInt8.toInt32)) 9 1 (nI (n + 1))) z none) : a_Meets X ad (a_LL ns) mX1_put σ z [.ref 9, .int b] K := by
  refine a_Meets.of hX oX1_put (al0 := [(0, .ref 9), (1, .int b)]) rfl rfl (fun AT step => ?_)
  refine step [] 5 ?_
  refine ⟨fun g => ?_, fun g => ?_⟩
  · rw [h1, nI_leI (by omega) (by omega)] at g
    omega
  · refine ⟨n, ⟨by omega, by omega, h1⟩, ?_⟩
    show K _ _ _
    rw [show a_up σ 10 n (vp_nar .byte b.toInt8.toInt32) 9 1 + nI 1 = nI (n + 1) by simp [a_up, h1, nI_add]]
    exact hK
theorem t_X1_byteAt (hX : a_okX X) {n j : Nat} (hn : n ≤ 240) (h1 : σ 9 1 = nI n) (hj : j < n) (hK : K σ z (some (.int (σ 10 j)))) : a_Meets X ad (a_LL ns) mX1_byteAt σ z [.ref 9, .int (nI j)] K := by
  refine a_Meets.of hX oX1_byteAt (al0 := [(0, .ref 9), (1, .int (nI j))]) rfl rfl (fun AT step => ?_)
  refine step [] 5 ?_
  refine ⟨fun g => absurd g (nI_pos (by omega)), fun _ => ⟨fun g => ?_, fun g => ?_⟩⟩
  · rw [h1, nI_leI (by omega) (by omega)] at g
    omega
  · refine ⟨j, ⟨by omega, by omega, rfl⟩, ?_⟩
    exact hK
theorem t_X3_note (hX : a_okX X) {d t : Int32} {w : Bool} {n : Nat} (hn : n < 40) (h1 : σ 11 3 = nI n)
    (hK : K (a_up (a_up (a_up (a_up σ 12 n d) 13 n (b2i w)) 14 n t) 11 3 (nI (n + 1))) z none) : a_Meets X ad (a_LL ns) mX3_note σ z [.ref 11, .int d, .int (b2i w), .int t] K := by
  refine a_Meets.of hX oX3_note (al0 := [(0, .ref 11), (1, .int d), (2, .int (b2i w)), (3, .int t)]) rfl rfl (fun AT step => ?_)
  refine step [] 5 ?_
  refine ⟨fun g => ?_, fun g => ?_⟩
  · rw [h1, nI_leI (by omega) (by omega)] at g
    omega
  · refine ⟨n, ⟨by omega, by omega, h1⟩, n, ⟨by omega, by omega, h1⟩, n, ⟨by omega, by omega, h1⟩, ?_⟩
    show K _ _ _
    rw [b2i_nar, show a_up (a_up (a_up σ 12 n d) 13 n (b2i w)) 14 n t 11 3 + nI 1 = nI (n + 1) by simp [a_up, h1, nI_add]]
    exact hK
theorem t_X5_leaveOut (hX : a_okX X) {c : Int32} {n : Nat} (hn : n ≤ 80) (h1 : σ 1 1 = nI n) (hT : ∀ j, j ≤ n → c = nI j → K (a_up σ 1 2 (nI j)) z (some (.int 1))) (hF : (¬ ∃ j, j ≤ n ∧ c = nI j) → K σ z (some (.int 0))) :
    a_Meets X ad (a_LL ns) mX5_leaveOut σ z [.ref 1, .int c] K := by
  refine a_Meets.of hX oX5_leaveOut (al0 := [(0, .ref 1), (1, .int c)]) rfl rfl (fun AT step => ?_)
  refine step [] 5 ?_
  refine ⟨fun g => ?_, fun g0 => ⟨fun g => ?_, fun g => ?_⟩⟩
  · refine ⟨Or.inl rfl, hF ?_⟩
    rintro ⟨j, hj, rfl⟩
    exact nI_pos (by omega) g
  · obtain ⟨j, hj, rfl⟩ := nI_of g0
    rw [h1, nI_leI (by omega) (by omega)] at g
    exact ⟨Or.inr rfl, hT j g rfl⟩
  · refine ⟨Or.inl rfl, hF ?_⟩
    rintro ⟨j, hj, rfl⟩
    rw [h1, nI_leI (by omega) (by omega)] at g
    exact g hj
theorem t_X5_isLeftOutTold (hX : a_okX X) {n : Nat} (hn : n ≤ 80) (h1 : σ 1 2 = nI n) (hK : K σ z (some (.int (b2i (decide (0 < n)))))) : a_Meets X ad (a_LL ns) mX5_isLeftOutTold σ z [.ref 1] K := by
  refine a_Meets.of hX oX5_isLeftOutTold (al0 := [(0, .ref 1)]) rfl rfl (fun AT step => ?_)
  refine step [] 5 ?_
  refine ⟨fun g => ?_, fun g => ?_⟩
  · rw [h1, ← nI_0, nI_leI (by omega) (by omega)] at g
    exact k_b0 hK (by simp; omega)
  · rw [h1, ← nI_0, nI_leI (by omega) (by omega)] at g
    exact k_b1 hK (by simp; omega)
theorem t_X5_signAt (hX : a_okX X) {j : Nat} (hj : j < 80) (hK : K σ z (some (.int (σ 2 j)))) : a_Meets X ad (a_LL ns) mX5_signAt σ z [.ref 1, .int (nI j)] K := by
  refine a_Meets.of hX oX5_signAt (al0 := [(0, .ref 1), (1, .int (nI j))]) rfl rfl (fun AT step => ?_)
  refine step [] 5 ?_
  refine ⟨fun g => absurd g (nI_pos (by omega)), fun _ => ⟨fun g => ?_, fun g => ?_⟩⟩
  · rw [nI_leI (by omega) (by omega)] at g
    omega
  · exact ⟨j, ⟨by omega, by omega, rfl⟩, hK⟩
theorem t_X6_signAt (hX : a_okX X) {j : Nat} (hj : j < 80) (hK : K σ z (some (.int (σ 6 j)))) : a_Meets X ad (a_LL ns) mX6_signAt σ z [.ref 5, .int (nI j)] K := by
  refine a_Meets.of hX oX6_signAt (al0 := [(0, .ref 5), (1, .int (nI j))]) rfl rfl (fun AT step => ?_)
  refine step [] 5 ?_
  refine ⟨fun g => absurd g (nI_pos (by omega)), fun _ => ⟨fun g => ?_, fun g => ?_⟩⟩
  · rw [nI_leI (by omega) (by omega)] at g
    omega
  · exact ⟨j, ⟨by omega, by omega, rfl⟩, hK⟩
theorem t_X6_end (hX : a_okX X) {j : Nat} (hj : j < 40) (hK : K σ z (some (.int (σ 7 j)))) : a_Meets X ad (a_LL ns) mX6_end σ z [.ref 5, .int (nI j)] K := by
  refine a_Meets.of hX oX6_end (al0 := [(0, .ref 5), (1, .int (nI j))]) rfl rfl (fun AT step => ?_)
  refine step [] 5 ?_
  refine ⟨fun g => absurd g (nI_pos (by omega)), fun _ => ⟨fun g => ?_, fun g => ?_⟩⟩
  · rw [nI_leI (by omega) (by omega)] at g
    omega
  · exact ⟨j, ⟨by omega, by omega, rfl⟩, hK⟩
theorem t_X6_start (hX : a_okX X) {j : Nat} (hj : j ≤ 40) (hK : K σ z (some (.int (if j = 0 then nI 0 else σ 7 (j - 1))))) : a_Meets X ad (a_LL ns) mX6_start σ z [.ref 5, .int (nI j)] K := by
  refine a_Meets.of hX oX6_start (al0 := [(0, .ref 5), (1, .int (nI j))]) rfl rfl (fun AT step => ?_)
  refine step [] 5 ?_
  refine ⟨fun g => ?_, fun g => ?_⟩
  · rw [← nI_0, nI_leI (by omega) (by omega)] at g
    rw [if_pos (by omega)] at hK
    exact hK
  · rw [← nI_0, nI_leI (by omega) (by omega)] at g
    rw [if_neg (by omega)] at hK
    show a_Meets _ _ _ _ _ _ [.ref 5, .int (nI j - nI 1)] _
    rw [pk_sub (by omega)]
    exact t_X6_end hX (by omega) hK
theorem t_X6_put (hX : a_okX X) {c : Int32} {n : Nat} (hn : n < 80) (h1 : σ 5 2 = nI n)
    (hK : K (a_up (a_up σ 6 n (vp_nar .char (c.toUInt32 % 65536).toInt32)) 5 2 (nI (n + 1))) z none) : a_Meets X ad (a_LL ns) mX6_put σ z [.ref 5, .int c] K := by
  refine a_Meets.of hX oX6_put (al0 := [(0, .ref 5), (1, .int c)]) rfl rfl (fun AT step => ?_)
  refine step [] 5 ?_
  refine ⟨fun g => ?_, fun g => ?_⟩
  · rw [h1, nI_leI (by omega) (by omega)] at g
    omega
  · refine ⟨n, ⟨by omega, by omega, h1⟩, ?_⟩
    show K _ _ _
    rw [show a_up σ 6 n (vp_nar .char (c.toUInt32 % 65536).toInt32) 5 2 + nI 1 = nI (n + 1) by simp [a_up, h1, nI_add]]
    exact hK
/-- endWord: n letters are there, w words are told, the last of which ends at b -/
theorem t_X6_endWord (hX : a_okX X) {n w b : Nat} (hn : n ≤ 80) (hb : b ≤ n) (hw : b < n → w < 40) (hw2 : w ≤ 40) (h1 : σ 5 2 = nI n) (h2 : σ 5 3 = nI w) (h3 : (if w = 0 then nI 0 else σ 7 (w - 1)) = nI b)
    (hK : K (if b < n then a_up (a_up σ 7 w (nI n)) 5 3 (nI (w + 1)) else σ) z none) : a_Meets X ad (a_LL ns) mX6_endWord σ z [.ref 5] K := by
  refine a_Meets.of hX oX6_endWord (al0 := [(0, .ref 5)]) rfl rfl (fun AT step => ?_)
  refine step [] 5 ?_
  show a_Meets _ _ _ _ _ _ [.ref 5, .int (σ 5 3)] _
  rw [h2]
  refine t_X6_start hX hw2 ?_
  rw [h3]
  refine ⟨fun g => ?_, fun g => ?_⟩
  · rw [h1, nI_leI (by omega) (by omega)] at g
    rw [if_neg (by omega)] at hK
    exact hK
  · rw [h1, nI_leI (by omega) (by omega)] at g
    rw [if_pos (by omega)] at hK
    refine ⟨fun g2 => ?_, fun g2 => ?_⟩
    · rw [h2, nI_leI (by omega) (by omega)] at g2
      omega
    · refine ⟨w, ⟨by omega, by omega, h2⟩, ?_⟩
      show K _ _ _
      rw [h1, show a_up σ 7 w (nI n) 5 3 + nI 1 = nI (w + 1) by simp [a_up, h2, nI_add]]
      exact hK
theorem t_X7_language (hX : a_okX X) {c : Int32} (hT : ∀ j, j < 4 → c = nI j → K (a_up σ 0 8 (nI j)) z (some (.int (σ 0 8)))) (hF : (¬ ∃ j, j < 4 ∧ c = nI j) → K σ z (some (.int (-1)))) :
    a_Meets X ad (a_LL ns) mX7_language σ z [.ref 0, .int c] K := by
  refine a_Meets.of hX oX7_language (al0 := [(0, .ref 0), (1, .int c)]) rfl rfl (fun AT step => ?_)
  refine step [] 5 ?_
  refine ⟨fun g => hF ?_, fun g0 => ⟨fun g => ?_, fun g => hF ?_⟩⟩
  · rintro ⟨j, hj, rfl⟩
    exact nI_pos (by omega) g
  · obtain ⟨j, hj, rfl⟩ := nI_of g0
    rw [nI_ltI (by omega) (by omega)] at g
    exact hT j g rfl
  · rintro ⟨j, hj, rfl⟩
    rw [nI_ltI (by omega) (by omega)] at g
    exact g hj
theorem t_X7_roman (hX : a_okX X) {b b0 : Bool} (h1 : σ 0 9 = b2i b0) (hK : K (a_up σ 0 9 (b2i b)) z (some (.int (b2i b0)))) : a_Meets X ad (a_LL ns) mX7_roman σ z [.ref 0, .int (b2i b)] K := by
  refine a_Meets.of hX oX7_roman (al0 := [(0, .ref 0), (1, .int (b2i b))]) rfl rfl (fun AT step => ?_)
  refine step [] 5 ?_
  refine ⟨b2i_01 b, ?_⟩
  show a_bl (σ 0 9) (K _ _ (some (.int (σ 0 9))))
  rw [h1]
  exact ⟨b2i_01 b0, hK⟩
theorem t_X2_isSpace (hX : a_okX X) {c : Int32} {f : Nat → Bool} (hf : ∀ j, j < 127 → σ 4 j = b2i (f j)) (hK : K σ z (some (.int (b2i (cM c && f c.toInt.toNat))))) : a_Meets X ad (a_LL ns) mX2_isSpace σ z [.ref 3, .int c] K := by
  refine a_Meets.of hX oX2_isSpace (al0 := [(0, .ref 3), (1, .int c)]) rfl rfl (fun AT step => ?_)
  refine step [] 5 ?_
  refine t_X7_isMark hX ?_
  refine ⟨fun g => ?_, fun g => ?_⟩
  · rw [b2i_0] at g
    exact k_b0 hK (by simp [g])
  · have h1 : cM c = true := by cases h : cM c <;> simp_all [b2i]
    have h2 : 33 ≤ c.toInt ∧ c.toInt ≤ 126 := by simp [cM] at h1; omega
    have h3 : c = nI c.toInt.toNat := by
      apply Int32.toInt_inj.mp
      rw [nI_toInt (by omega)]
      omega
    refine ⟨c.toInt.toNat, ⟨by omega, by omega, h3⟩, ?_⟩
    refine ⟨fun g2 => ?_, fun g2 => ?_⟩
    · rw [hf _ (by omega), b2i_0] at g2
      exact k_b0 hK (by rw [g2, Bool.and_false])
    · rw [hf _ (by omega), b2i_0] at g2
      exact k_b1 hK (by rw [h1, Bool.true_and]; exact Bool.not_eq_false _ ▸ g2)
theorem t_X2_take (hX : a_okX X) {c : Int32} {b : Bool} (hm : cM c = true) (hK : K (a_up σ 4 c.toInt.toNat (b2i b)) z none) : a_Meets X ad (a_LL ns) mX2_take σ z [.ref 3, .int c, .int (b2i b)] K := by
  refine a_Meets.of hX oX2_take (al0 := [(0, .ref 3), (1, .int c), (2, .int (b2i b))]) rfl rfl (fun AT step => ?_)
  refine step [] 5 ?_
  refine t_X7_isMark hX ?_
  rw [hm]
  refine ⟨fun g => absurd g (by decide), fun g => ?_⟩
  have h2 : 33 ≤ c.toInt ∧ c.toInt ≤ 126 := by simp [cM] at hm; omega
  have h3 : c = nI c.toInt.toNat := by
    apply Int32.toInt_inj.mp
    rw [nI_toInt (by omega)]
    omega
  refine ⟨c.toInt.toNat, ⟨by omega, by omega, h3⟩, ?_⟩
  show K _ _ _
  rw [b2i_nar]
  exact hK
end Leaf
