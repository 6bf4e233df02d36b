/-! A word's bytes -/
def nx (f : Nat → Nat) (e i c : Nat) : Bool := decide (i < e) && decide (f i = c)
def aD (f : Nat → Nat) : Nat → Nat → Bool
  | _, 0 => true
  | a, n + 1 => cD (nI (f a)) && aD f (a + 1) n
def fz (f : Nat → Nat) : Nat → Nat → Nat
  | a, 0 => a
  | a, n + 1 => if 0 < n ∧ f a = 48 then fz f (a + 1) n else a
def ap (f : Nat → Nat) : List Nat → Nat → Nat → List Nat
  | k, _, 0 => k
  | k, a, n + 1 => ap f (k ++ [f a]) (a + 1) n
def tlv (f : Nat → Nat) (b : Nat) : Nat → Nat → Nat → Nat
  | acc, _, 0 => acc
  | acc, i, n + 1 => tlv f b (if b ≤ i + 9 then 10 * acc + (f i - 48) else acc) (i + 1) n
def on3 (f : Nat → Nat) (e c : Nat) : Nat → Nat → Nat
  | 0, _ => 0
  | n + 1, i => if nx f e i c then on3 f e c n (i + 1) + 1 else 0
def rp (f : Nat → Nat) (e o v t i : Nat) : Nat × Nat :=
  if nx f e i o && nx f e (i + 1) t then (9, i + 2) else if nx f e i o && nx f e (i + 1) v then (4, i + 2)
  else if nx f e i v then (5 + on3 f e o 3 (i + 1), i + 1 + on3 f e o 3 (i + 1)) else (on3 f e o 3 i, i + on3 f e o 3 i)
def rmn (f : Nat → Nat) (a e : Nat) : Nat :=
  if (rp f e 105 118 120 (rp f e 120 108 99 (rp f e 99 100 109 (rp f e 109 0 0 a).2).2).2).2 = e then
    1000 * (rp f e 109 0 0 a).1 + 100 * (rp f e 99 100 109 (rp f e 109 0 0 a).2).1 + 10 * (rp f e 120 108 99 (rp f e 99 100 109 (rp f e 109 0 0 a).2).2).1 + (rp f e 105 118 120 (rp f e 120 108 99 (rp f e 99 100 109 (rp f e 109 0 0 a).2).2).2).1 else 0
theorem ap_len (f : Nat → Nat) : ∀ (n a : Nat) (k : List Nat), (ap f k a n).length = k.length + n := by
  intro n
  induction n with
  | zero => intro a k; rfl
  | succ n ih =>
    intro a k
    simp only [ap, ih, List.length_append, List.length_singleton]
    omega
theorem fz_in (f : Nat → Nat) : ∀ (n a : Nat), a ≤ fz f a n ∧ (0 < n → fz f a n < a + n) := by
  intro n
  induction n with
  | zero => intro a; exact ⟨Nat.le_refl _, fun h => absurd h (by omega)⟩
  | succ n ih =>
    intro a
    unfold fz
    split
    · rename_i h
      have := ih (a + 1)
      exact ⟨by omega, fun _ => by have := this.2 h.1; omega⟩
    · exact ⟨Nat.le_refl _, fun _ => by omega⟩
theorem on3_le (f : Nat → Nat) (e c : Nat) : ∀ (n i : Nat), on3 f e c n i ≤ n := by
  intro n
  induction n with
  | zero => intro i; exact Nat.le_refl _
  | succ n ih =>
    intro i
    unfold on3
    split
    · have := ih (i + 1); omega
    · omega
theorem on3_in (f : Nat → Nat) (e c : Nat) : ∀ (n i : Nat), i ≤ e → i + on3 f e c n i ≤ e := by
  intro n
  induction n with
  | zero => intro i h; exact h
  | succ n ih =>
    intro i h
    unfold on3
    split
    · rename_i g
      have g : i < e := by simp [nx] at g; exact g.1
      have := ih (i + 1) g
      omega
    · exact h
theorem rp_in {f : Nat → Nat} {e o v t i : Nat} (h : i ≤ e) : i ≤ (rp f e o v t i).2 ∧ (rp f e o v t i).2 ≤ e ∧ (rp f e o v t i).1 ≤ 9 := by
  unfold rp
  split
  · rename_i g
    simp [nx] at g
    exact ⟨by simp, by simp; omega, by simp⟩
  · split
    · rename_i g
      simp [nx] at g
      exact ⟨by simp, by simp; omega, by simp⟩
    · split
      · rename_i g
        simp [nx] at g
        have g1 := on3_in f e o 3 (i + 1) (by omega)
        have g2 := on3_le f e o 3 (i + 1)
        exact ⟨by dsimp only; omega, g1, by dsimp only; omega⟩
      · have g1 := on3_in f e o 3 i h
        have g2 := on3_le f e o 3 i
        exact ⟨by dsimp only; omega, g1, by dsimp only; omega⟩
/-- what is known of the words of a title -/
def wOK (S : sS) : Prop := S.1.length ≤ 80 ∧ S.2.1.length ≤ 40 ∧ (∀ k, k < S.2.1.length → sta S.2.1 k < sta S.2.1 (k + 1)) ∧ (∀ k, k ≤ S.2.1.length → sta S.2.1 k ≤ S.1.length) ∧ (∀ j, j < S.1.length → 48 ≤ S.1.getD j 0 ∧ S.1.getD j 0 < 128) ∧ S.1.length + S.2.1.length ≤ 81 ∧ sta S.2.1 S.2.1.length = S.1.length
theorem sta_le {es : List Nat} (h : ∀ k, k < es.length → sta es k < sta es (k + 1)) : ∀ n k, k + n ≤ es.length → sta es k + n ≤ sta es (k + n) := by
  intro n
  induction n with
  | zero => intro k _; exact Nat.le_refl _
  | succ n ih =>
    intro k hk
    have h1 := ih k (by omega)
    have h2 := h (k + n) (by omega)
    rw [show k + (n + 1) = k + n + 1 by omega]
    omega
theorem wOK_split {sp : Nat → Bool} {l : List Nat} (hl : l.length ≤ 80) (hc : ∀ x ∈ l, x < 256) : wOK (sSplit sp l) := by
  have h0 := sInv_fold (sp := sp) l 0 ([], [], 0) hc sInv_0
  rw [Nat.zero_add] at h0
  have h1 := sInv_fin h0
  have hn : (sFin (l.foldl (sStp sp) ([], [], 0))).1.length ≤ 80 := by
    have e : (sFin (l.foldl (sStp sp) ([], [], 0))).1 = (l.foldl (sStp sp) ([], [], 0)).1 := by unfold sFin; split <;> rfl
    rw [e]
    have := h0.2.2.1
    omega
  have hb : (sFin (l.foldl (sStp sp) ([], [], 0))).2.2 = (sFin (l.foldl (sStp sp) ([], [], 0))).1.length := by
    unfold sFin
    split
    · rfl
    · have := h0.2.1
      omega
  show wOK (sFin (l.foldl (sStp sp) ([], [], 0)))
  generalize sFin (l.foldl (sStp sp) ([], [], 0)) = T at h1 hn hb ⊢
  obtain ⟨i1, i2, i3, i4, i5, i6⟩ := h1
  refine ⟨hn, by omega, i5, fun k hk => ?_, fun j hj => ?_, by omega, by rw [← i4]; exact hb⟩
  · have := sta_le i5 (T.2.1.length - k) k (by omega)
    rw [show k + (T.2.1.length - k) = T.2.1.length by omega, ← i4] at this
    omega
  · refine i6 _ ?_
    rw [List.getD_eq_getElem?_getD, List.getElem?_eq_getElem hj]
    exact List.getElem_mem hj
/-- the latest key, the latest key's numbers, as FilingOrder has them -/
def cK (σ : aS) (k : List Nat) : Prop := σ 9 1 = nI k.length ∧ ∀ j, j < k.length → σ 10 j = nI (k.getD j 0)
def cN (σ : aS) (ns : List (Nat × Bool × Nat)) : Prop := σ 11 3 = nI ns.length ∧ ∀ j, j < ns.length → σ 12 j = nI (ns.getD j (0, false, 0)).1 ∧ σ 13 j = b2i (ns.getD j (0, false, 0)).2.1 ∧ σ 14 j = nI (ns.getD j (0, false, 0)).2.2
theorem getD_app {α : Type} {l : List α} {x d : α} {j : Nat} : (l ++ [x]).getD j d = if j = l.length then x else l.getD j d := by
  split
  · rename_i e
    subst e
    simp [List.getD]
  · rename_i e
    rcases Nat.lt_or_ge j l.length with g | g
    · simp [List.getD, List.getElem?_append_left g]
    · simp [List.getD, List.getElem?_eq_none (show (l ++ [x]).length ≤ j by simp; omega), List.getElem?_eq_none (show l.length ≤ j by omega)]
section Wd
variable {X : aX} {ad : Nat → Nat} {ns : List Nat} {σ : aS} {z : aZ} {K : aS → aZ → Option Value → Prop} {S : sS}
theorem t_start (hX : a_okX X) (hr : rW σ S) (hw : wOK S) {w : Nat} (h : w ≤ S.2.1.length) (hK : K σ z (some (.int (nI (sta S.2.1 w))))) : a_Meets X ad (a_LL ns) mX6_start σ z [.ref 5, .int (nI w)] K := by
  refine t_X6_start hX (by have := hw.2.1; omega) ?_
  rw [rW_sta hr h]
  exact hK
theorem t_end (hX : a_okX X) (hr : rW σ S) (hw : wOK S) {w : Nat} (h : w < S.2.1.length) (hK : K σ z (some (.int (nI (sta S.2.1 (w + 1)))))) : a_Meets X ad (a_LL ns) mX6_end σ z [.ref 5, .int (nI w)] K := by
  refine t_X6_end hX (by have := hw.2.1; omega) ?_
  rw [hr.2.2.2 w h]
  exact hK
theorem t_sign (hX : a_okX X) (hr : rW σ S) (hw : wOK S) {j : Nat} (h : j < S.1.length) (hK : K σ z (some (.int (nI (S.1.getD j 0))))) : a_Meets X ad (a_LL ns) mX6_signAt σ z [.ref 5, .int (nI j)] K := by
  refine t_X6_signAt hX (by have := hw.1; omega) ?_
  rw [hr.2.2.1 j h]
  exact hK
theorem t_isDigits (hX : a_okX X) (hr : rW σ S) (hw : wOK S) {w : Nat} (h : w < S.2.1.length) (hK : K σ z (some (.int (b2i (aD (fun j => S.1.getD j 0) (sta S.2.1 w) (sta S.2.1 (w + 1) - sta S.2.1 w)))))) : a_Meets X ad (a_LL ns) mX6_isDigits σ z [.ref 5, .int (nI w)] K := by
  refine a_Meets.of hX oX6_isDigits (al0 := [(0, .ref 5), (1, .int (nI w))]) rfl rfl (fun AT step => ?_)
  have he := hw.2.2.2.1 (w + 1) (by omega)
  have hl := hw.1
  have loop : ∀ (n i : Nat) (x : Int32), x = nI i → i + n = sta S.2.1 (w + 1) → K σ z (some (.int (b2i (aD (fun j => S.1.getD j 0) i n)))) → AT 6 0 0 σ z [(0, .ref 5), (1, .int (nI w)), (2, .int x)] [] := by
    intro n
    induction n with
    | zero =>
      intro i x hx hi hk
      subst hx
      refine step [(6, [0, 1, 2])] 5 ?_
      refine t_end hX hr hw h ?_
      refine ⟨fun g => ?_, fun g => ?_⟩
      · exact k_b1 hk rfl
      · rw [nI_leI (by omega) (by omega)] at g
        omega
    | succ n ih =>
      intro i x hx hi hk
      subst hx
      refine step [(6, [0, 1, 2])] 5 ?_
      refine t_end hX hr hw h ?_
      refine ⟨fun g => ?_, fun g => ?_⟩
      · rw [nI_leI (by omega) (by omega)] at g
        omega
      · refine t_sign hX hr hw (by omega) ?_
        refine t_X7_isDigit hX ?_
        unfold aD at hk
        refine ⟨fun g2 => ?_, fun g2 => ?_⟩
        · rw [b2i_0] at g2
          rw [(Bool.not_eq_false _).mp g2, Bool.true_and] at hk
          exact ih (i + 1) _ (nI_add i 1) (by omega) hk
        · rw [b2i_0] at g2
          exact k_b0 hk (by rw [g2]; rfl)
  refine step [(6, [0, 1, 2])] 5 ?_
  refine t_start hX hr hw (by omega) ?_
  exact loop _ _ _ rfl (by have := hw.2.2.1 w h; omega) hK
/-- the reader of Roman numerals stands at i, its word ends at e -/
def rR (σ : aS) (i e : Nat) : Prop := σ 8 1 = nI i ∧ σ 8 2 = nI e
theorem t_isNext (hX : a_okX X) (hr : rW σ S) (hw : wOK S) {i e d c : Nat} (hR : rR σ i e) (hi : i ≤ e) (he : e ≤ S.1.length) (hd : d < 10) (hc : c < 256) (hK : K σ z (some (.int (b2i (nx (fun j => S.1.getD j 0) e (i + d) c))))) : a_Meets X ad (a_LL ns) mX4_isNext σ z [.ref 8, .int (nI d), .int (nI c)] K := by
  have hl := hw.1
  refine a_Meets.of hX oX4_isNext (al0 := [(0, .ref 8), (1, .int (nI d)), (2, .int (nI c))]) rfl rfl (fun AT step => ?_)
  refine step [] 5 ?_
  refine ⟨fun g => ?_, fun g => ?_⟩
  · rw [hR.1, hR.2, nI_add, nI_leI (by omega) (by omega)] at g
    exact k_b0 hK (by simp [nx]; omega)
  · rw [hR.1, hR.2, nI_add, nI_leI (by omega) (by omega)] at g
    show a_Meets _ _ _ _ _ _ [.ref 5, .int (σ 8 1 + nI d)] _
    rw [hR.1, nI_add]
    have hb := hw.2.2.2.2.1 (i + d) (by omega)
    refine t_sign hX hr hw (by omega) ?_
    refine ⟨fun g2 => ?_, fun g2 => ?_⟩
    · have g2 : ¬ S.1.getD (i + d) 0 = c := fun q => g2 (by rw [q])
      exact k_b0 hK (by simp only [nx, decide_eq_false g2, Bool.and_false])
    · have g2 : S.1.getD (i + d) 0 = c := (nI_eq (by omega) (by omega)).mp g2
      exact k_b1 hK (by simp only [nx, decide_eq_true g2, Bool.and_true, decide_eq_true_eq]; omega)
theorem t_isNext0 (hX : a_okX X) (hr : rW σ S) (hw : wOK S) {i e c : Nat} (hR : rR σ i e) (hi : i ≤ e) (he : e ≤ S.1.length) (hc : c < 256) (hK : K σ z (some (.int (b2i (nx (fun j => S.1.getD j 0) e i c))))) : a_Meets X ad (a_LL ns) mX4_isNext σ z [.ref 8, .int (nI 0), .int (nI c)] K :=
  t_isNext hX hr hw hR hi he (d := 0) (by omega) hc hK
theorem t_readPlace (hX : a_okX X) (hr : rW σ S) (hw : wOK S) {i e o v t : Nat} (hR : rR σ i e) (hi : i ≤ e) (he : e ≤ S.1.length) (ho : o < 256) (hv : v < 256) (ht : t < 256)
    (hK : ∀ σ', rR σ' (rp (fun j => S.1.getD j 0) e o v t i).2 e → (∀ q, q ≠ 8 → σ' q = σ q) → K σ' z (some (.int (nI (rp (fun j => S.1.getD j 0) e o v t i).1)))) : a_Meets X ad (a_LL ns) mX4_readPlace σ z [.ref 8, .int (nI o), .int (nI v), .int (nI t)] K := by
  have hl := hw.1
  refine a_Meets.of hX oX4_readPlace (al0 := [(0, .ref 8), (1, .int (nI o)), (2, .int (nI v)), (3, .int (nI t))]) rfl rfl (fun AT step => ?_)
  generalize hf : (fun j => S.1.getD j 0) = f at hK
  have rWk : ∀ σ1 : aS, (∀ q, q ≠ 8 → σ1 q = σ q) → rW σ1 S := by
    intro σ1 h1
    obtain ⟨r1, r2, r3, r4⟩ := hr
    exact ⟨by rw [h1 5 (by decide)]; exact r1, by rw [h1 5 (by decide)]; exact r2, fun j hj => by rw [h1 6 (by decide)]; exact r3 j hj, fun j hj => by rw [h1 7 (by decide)]; exact r4 j hj⟩
  -- the ones
  have loop : ∀ (n k d i1 : Nat) (x y : Int32) (σ1 : aS), k + n = 3 → x = nI d → y = nI k → i1 ≤ e → rR σ1 i1 e → (∀ q, q ≠ 8 → σ1 q = σ q) → d + on3 f e o n i1 = (rp f e o v t i).1 → i1 + on3 f e o n i1 = (rp f e o v t i).2 → AT 89 0 0 σ1 z [(0, .ref 8), (1, .int (nI o)), (2, .int (nI v)), (3, .int (nI t)), (4, .int x), (5, .int y)] [] := by
    intro n
    induction n with
    | zero =>
      intro k d i1 x y σ1 hk hx hy hi1 hR1 hf1 e1 e2
      subst hx
      subst hy
      refine step [(89, [0, 1, 2, 3, 4, 5])] 5 ?_
      refine ⟨fun g => ?_, fun g => ?_⟩
      · simp only [on3, Nat.add_zero] at e1 e2
        show K _ _ (some (.int (nI d)))
        rw [e1]
        rw [e2] at hR1
        exact hK σ1 hR1 hf1
      · rw [nI_leI (by omega) (by omega)] at g
        omega
    | succ n ih =>
      intro k d i1 x y σ1 hk hx hy hi1 hR1 hf1 e1 e2
      subst hx
      subst hy
      refine step [(89, [0, 1, 2, 3, 4, 5])] 5 ?_
      refine ⟨fun g => ?_, fun g => ?_⟩
      · rw [nI_leI (by omega) (by omega)] at g
        omega
      · refine t_isNext0 hX (rWk σ1 hf1) hw hR1 hi1 he ho ?_
        rw [hf]
        unfold on3 at e1 e2
        refine ⟨fun g2 => ?_, fun g2 => ?_⟩
        · rw [b2i_0] at g2
          rw [g2] at e1 e2
          simp only [Bool.false_eq_true, if_false, Nat.add_zero] at e1 e2
          show K _ _ (some (.int (nI d)))
          rw [e1]
          rw [e2] at hR1
          exact hK σ1 hR1 hf1
        · rw [b2i_0] at g2
          have g2 := (Bool.not_eq_false _).mp g2
          have g3 : i1 < e := by simp [nx] at g2; exact g2.1
          rw [g2] at e1 e2
          simp only [if_true] at e1 e2
          refine ih (k + 1) (d + 1) (i1 + 1) _ _ _ (by omega) (nI_add d 1) (nI_add k 1) (by omega) ⟨?_, ?_⟩ (fun q hq => ?_) (by omega) (by omega)
          · simp [a_up, hR1.1, nI_add]
          · simp [a_up, hR1.2]
          · rw [a_up_ne hq]; exact hf1 q hq
  have c61 : nx f e i o = false ∨ nx f e (i + 1) t = false → nx f e i o = false ∨ nx f e (i + 1) v = false → AT 61 0 0 σ z [(0, .ref 8), (1, .int (nI o)), (2, .int (nI v)), (3, .int (nI t))] [] := by
    intro q1 q2
    have erp : rp f e o v t i = if nx f e i v then (5 + on3 f e o 3 (i + 1), i + 1 + on3 f e o 3 (i + 1)) else (on3 f e o 3 i, i + on3 f e o 3 i) := by
      unfold rp
      rw [if_neg, if_neg]
      · rcases q2 with q | q <;> simp [q]
      · rcases q1 with q | q <;> simp [q]
    refine step [(89, [0, 1, 2, 3, 4, 5])] 5 ?_
    refine t_isNext0 hX hr hw hR hi he hv ?_
    rw [hf]
    refine ⟨fun g2 => ?_, fun g2 => ?_⟩
    · rw [b2i_0] at g2
      rw [g2] at erp
      simp only [Bool.false_eq_true, if_false] at erp
      refine loop 3 0 0 i _ _ σ rfl rfl rfl hi hR (fun _ _ => rfl) ?_ ?_
      · rw [erp]; simp
      · rw [erp]
    · rw [b2i_0] at g2
      have g2 := (Bool.not_eq_false _).mp g2
      have g3 : i < e := by simp [nx] at g2; exact g2.1
      rw [g2] at erp
      simp only [if_true] at erp
      refine loop 3 0 5 (i + 1) _ _ _ rfl rfl rfl (by omega) ⟨?_, ?_⟩ (fun q hq => a_up_ne hq) ?_ ?_
      · simp [a_up, hR.1, nI_add]
      · simp [a_up, hR.2]
      · rw [erp]
      · rw [erp]
  have c31 : nx f e i o = false ∨ nx f e (i + 1) t = false → AT 31 0 0 σ z [(0, .ref 8), (1, .int (nI o)), (2, .int (nI v)), (3, .int (nI t))] [] := by
    intro q1
    refine step [(61, [0, 1, 2, 3])] 5 ?_
    refine t_isNext0 hX hr hw hR hi he ho ?_
    rw [hf]
    refine ⟨fun g2 => ?_, fun g2 => ?_⟩
    · rw [b2i_0] at g2
      exact c61 q1 (Or.inl g2)
    · rw [b2i_0] at g2
      have g2 := (Bool.not_eq_false _).mp g2
      refine t_isNext hX hr hw hR hi he (d := 1) (by omega) hv ?_
      rw [hf]
      refine ⟨fun g3 => ?_, fun g3 => ?_⟩
      · rw [b2i_0] at g3
        exact c61 q1 (Or.inr g3)
      · rw [b2i_0] at g3
        have g3 := (Bool.not_eq_false _).mp g3
        have erp : rp f e o v t i = (4, i + 2) := by
          unfold rp
          rw [if_neg, if_pos]
          · simp [g2, g3]
          · rcases q1 with q | q <;> simp [q]
        rw [erp] at hK
        refine hK _ ⟨?_, ?_⟩ (fun q hq => a_up_ne hq)
        · simp [a_up, hR.1, nI_add]
        · simp [a_up, hR.2]
  refine step [(31, [0, 1, 2, 3])] 5 ?_
  refine t_isNext0 hX hr hw hR hi he ho ?_
  rw [hf]
  refine ⟨fun g2 => ?_, fun g2 => ?_⟩
  · rw [b2i_0] at g2
    exact c31 (Or.inl g2)
  · rw [b2i_0] at g2
    have g2 := (Bool.not_eq_false _).mp g2
    refine t_isNext hX hr hw hR hi he (d := 1) (by omega) ht ?_
    rw [hf]
    refine ⟨fun g3 => ?_, fun g3 => ?_⟩
    · rw [b2i_0] at g3
      exact c31 (Or.inr g3)
    · rw [b2i_0] at g3
      have g3 := (Bool.not_eq_false _).mp g3
      have erp : rp f e o v t i = (9, i + 2) := by
        unfold rp
        rw [if_pos]
        simp [g2, g3]
      rw [erp] at hK
      refine hK _ ⟨?_, ?_⟩ (fun q hq => a_up_ne hq)
      · simp [a_up, hR.1, nI_add]
      · simp [a_up, hR.2]
end Wd
