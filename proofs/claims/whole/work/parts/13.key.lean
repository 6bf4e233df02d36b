/-! Articles, and FilingOrder's key() -/
def a_tx (j : Nat) : List Nat := [[97], [97, 110], [116, 104, 101], [100, 101, 114], [100, 105, 101], [100, 97, 115], [108, 101], [108, 97], [108, 101, 115]].getD j []
def eqT (f : Nat → Nat) : Nat → List Nat → Bool
  | _, [] => true
  | a, x :: r => decide (f a = x) && eqT f (a + 1) r
def rdT (f : Nat → Nat) (a e : Nat) (t : List Nat) : Bool := decide (e - a = t.length) && eqT f a t
def isArt (lang : Nat) (f : Nat → Nat) (a e : Nat) : Bool := match lang with
  | 1 => rdT f a e (a_tx 0) || (rdT f a e (a_tx 1) || rdT f a e (a_tx 2))
  | 2 => rdT f a e (a_tx 3) || (rdT f a e (a_tx 4) || rdT f a e (a_tx 5))
  | 3 => rdT f a e (a_tx 6) || (rdT f a e (a_tx 7) || rdT f a e (a_tx 8))
  | _ => false
/-- what the texts' own methods answer -/
def a_okT (X : aX) (ad : Nat → Nat) (L : List aC) : Prop :=
  (∀ (σ : aS) (z : aZ) (K : aS → aZ → Option Value → Prop) (j : Nat), j < 9 → K σ z (some (.int (nI (a_tx j).length))) → a_Meets X ad L mJ0_length_8abf5 σ z [.ref (1000000 + j)] K) ∧
  (∀ (σ : aS) (z : aZ) (K : aS → aZ → Option Value → Prop) (j i : Nat), j < 9 → i < (a_tx j).length → K σ z (some (.int (nI ((a_tx j).getD i 0)))) → a_Meets X ad L mJ0_charAt_5068e σ z [.ref (1000000 + j), .int (nI i)] K)
theorem a_tx_ok : ∀ j, j < 9 → (a_tx j).length ≤ 3 ∧ ∀ x ∈ a_tx j, x < 128 := by decide +kernel
def Bs (es : List Nat) : Nat → Nat → Nat
  | _, 0 => 0
  | w, n + 1 => bb (sta es (w + 1) - sta es w) + Bs es (w + 1) n
theorem Bs_bound {es : List Nat} (h : ∀ k, k < es.length → sta es k < sta es (k + 1)) : ∀ (n w : Nat), w + n ≤ es.length → sta es w ≤ sta es (w + n) ∧
    (Bs es w n + 3 ≤ 3 * (sta es (w + n) - sta es w) + 3 * n ∨ (Bs es w n = 3 * (sta es (w + n) - sta es w) + 3 * n ∧ sta es (w + n) - sta es w = n)) := by
  intro n
  induction n with
  | zero => intro w _; exact ⟨Nat.le_refl _, Or.inr ⟨by simp [Bs], by simp⟩⟩
  | succ n ih =>
    intro w hw
    obtain ⟨h1, h2⟩ := ih (w + 1) (by omega)
    have h3 := h w (by omega)
    rw [show w + 1 + n = w + (n + 1) by omega] at h1 h2
    refine ⟨by omega, ?_⟩
    unfold Bs bb
    split
    · rcases h2 with g | ⟨g1, g2⟩
      · left; omega
      · right; omega
    · left
      rcases h2 with g | ⟨g1, g2⟩ <;> omega
theorem Bs_240 {S : sS} (hw : wOK S) : Bs S.2.1 0 S.2.1.length ≤ 240 := by
  obtain ⟨w1, w2, w3, w4, w5, w6, w7⟩ := hw
  obtain ⟨h1, h2⟩ := Bs_bound w3 S.2.1.length 0 (by omega)
  rw [Nat.zero_add] at h1 h2
  have h0 : sta S.2.1 0 = 0 := rfl
  rw [w7, h0] at h2
  rcases h2 with g | ⟨g1, g2⟩ <;> omega
def kf (rom : Bool) (f : Nat → Nat) (es : List Nat) : Nat → Nat → List Nat × List (Nat × Bool × Nat) → List Nat × List (Nat × Bool × Nat)
  | _, 0, a => a
  | w, n + 1, a => kf rom f es (w + 1) n (wk rom f (sta es w) (sta es (w + 1)) a.1, wn rom f (sta es w) (sta es (w + 1)) a.2)
def mFirst (left lang : Nat) (S : sS) : Nat := if (decide (left = 0) && decide (1 < S.2.1.length) && isArt lang (fun j => S.1.getD j 0) (sta S.2.1 0) (sta S.2.1 1)) = true then 1 else 0
def mKey (l : List Nat) (left lang : Nat) (rom : Bool) (sp : Nat → Bool) : List Nat × List (Nat × Bool × Nat) :=
  kf rom (fun j => (sSplit sp (l.drop left)).1.getD j 0) (sSplit sp (l.drop left)).2.1 (mFirst left lang (sSplit sp (l.drop left))) ((sSplit sp (l.drop left)).2.1.length - mFirst left lang (sSplit sp (l.drop left))) ([], [])
section Ky
variable {X : aX} {ad : Nat → Nat} {ns : List Nat} {σ : aS} {z : aZ} {K : aS → aZ → Option Value → Prop} {S : sS}
theorem t_reads (hX : a_okX X) (hT : a_okT X ad (a_LL ns)) (hr : rW σ S) (hw : wOK S) {w j : Nat} (h : w < S.2.1.length) (hj : j < 9) (hK : K σ z (some (.int (b2i (rdT (fun j => S.1.getD j 0) (sta S.2.1 w) (sta S.2.1 (w + 1)) (a_tx j)))))) : a_Meets X ad (a_LL ns) mX6_reads σ z [.ref 5, .int (nI w), .ref (1000000 + j)] K := by
  have he := hw.2.2.2.1 (w + 1) (by omega)
  have hae := hw.2.2.1 w h
  have hl := hw.1
  have ht := a_tx_ok j hj
  refine a_Meets.of hX oX6_reads (al0 := [(0, .ref 5), (1, .int (nI w)), (2, .ref (1000000 + j))]) rfl rfl (fun AT step => ?_)
  generalize hee : sta S.2.1 (w + 1) = e at *
  generalize haa : sta S.2.1 w = a at *
  unfold rdT at hK
  have loop : ∀ (n i : Nat) (x : Int32) (r : List Nat), x = nI i → e - a = (a_tx j).length → r.length = n → (a_tx j).drop i = r → i ≤ (a_tx j).length → K σ z (some (.int (b2i (eqT (fun j => S.1.getD j 0) (a + i) r)))) → AT 25 0 0 σ z [(0, .ref 5), (1, .int (nI w)), (2, .ref (1000000 + j)), (3, .int (nI a)), (4, .int x)] [] := by
    intro n
    induction n with
    | zero =>
      intro i x r hx hlen hr0 hd hi hk
      subst hx
      have hil : (a_tx j).length ≤ i := by
        have := congrArg List.length hd
        simp only [List.length_drop] at this
        omega
      refine step [(25, [0, 1, 2, 3, 4])] 5 ?_
      refine ⟨⟨j, rfl, by omega⟩, ?_⟩
      refine hT.1 _ _ _ j hj ?_
      have er : r = [] := List.eq_nil_of_length_eq_zero hr0
      rw [er] at hk
      refine ⟨fun g => ?_, fun g => ?_⟩
      · exact k_b1 hk rfl
      · rw [nI_leI (by omega) (by omega)] at g
        omega
    | succ n ih =>
      intro i x r hx hlen hr0 hd hi hk
      subst hx
      have hil : i < (a_tx j).length := by
        have := congrArg List.length hd
        simp only [List.length_drop] at this
        omega
      have hcons : (a_tx j).drop i = (a_tx j).getD i 0 :: (a_tx j).drop (i + 1) := by
        rw [List.getD_eq_getElem?_getD, List.getElem?_eq_getElem hil]
        exact List.drop_eq_getElem_cons hil
      rw [← hd, hcons] at hk
      refine step [(25, [0, 1, 2, 3, 4])] 5 ?_
      refine ⟨⟨j, rfl, by omega⟩, ?_⟩
      refine hT.1 _ _ _ j hj ?_
      refine ⟨fun g => ?_, fun g => ?_⟩
      · rw [nI_leI (by omega) (by omega)] at g
        omega
      · show a_Meets _ _ _ _ _ _ [.ref 5, .int (nI a + nI i)] _
        rw [nI_add]
        have hb := hw.2.2.2.2.1 (a + i) (by omega)
        have hb2 : (a_tx j).getD i 0 < 128 := by
          rw [List.getD_eq_getElem?_getD, List.getElem?_eq_getElem hil]
          exact ht.2 _ (List.getElem_mem hil)
        refine t_sign hX hr hw (by omega) ?_
        refine ⟨⟨j, rfl, by omega⟩, ?_⟩
        refine hT.2 _ _ _ j i hj hil ?_
        simp only [eqT] at hk
        refine ⟨fun g2 => ?_, fun g2 => ?_⟩
        · have g2 := (nI_eq (by omega) (by omega)).mp g2
          rw [decide_eq_true g2, Bool.true_and] at hk
          refine ih (i + 1) _ _ (nI_add i 1) hlen ?_ rfl (by omega) hk
          simp only [List.length_drop]
          have := congrArg List.length hd
          simp only [List.length_drop] at this
          omega
        · have g2 : ¬ S.1.getD (a + i) 0 = (a_tx j).getD i 0 := fun q => g2 (by rw [q])
          exact k_b0 hk (by rw [decide_eq_false g2, Bool.false_and])
  refine step [(25, [0, 1, 2, 3, 4])] 5 ?_
  refine t_start hX hr hw (by omega) ?_
  refine t_end hX hr hw h ?_
  rw [hee, haa]
  refine ⟨⟨j, rfl, by omega⟩, ?_⟩
  refine hT.1 _ _ _ j hj ?_
  refine ⟨fun g => ?_, fun g => ?_⟩
  · rw [pk_sub (by omega)] at g
    have g := (nI_eq (by omega) (by omega)).mp g
    rw [decide_eq_true g, Bool.true_and] at hK
    exact loop _ 0 _ _ rfl g rfl rfl (by omega) hK
  · rw [pk_sub (by omega)] at g
    have g : ¬ e - a = (a_tx j).length := fun q => g (by rw [q])
    exact k_b0 hK (by rw [decide_eq_false g, Bool.false_and])
theorem t_isArticle (hX : a_okX X) (hT : a_okT X ad (a_LL ns)) (hr : rW σ S) (hw : wOK S) {w lang : Nat} (h : w < S.2.1.length) (hlang : lang < 4) (h0 : σ 0 8 = nI lang) (hK : K σ z (some (.int (b2i (isArt lang (fun j => S.1.getD j 0) (sta S.2.1 w) (sta S.2.1 (w + 1))))))) : a_Meets X ad (a_LL ns) mX7_isArticle σ z [.ref 0, .int (nI w)] K := by
  refine a_Meets.of hX oX7_isArticle (al0 := [(0, .ref 0), (1, .int (nI w))]) rfl rfl (fun AT step => ?_)
  have r1 : ∀ (b1 b2 b3 : Bool), K σ z (some (.int (b2i (b1 || (b2 || b3))))) → True := fun _ _ _ _ => trivial
  refine step [] 6 ?_
  refine ⟨⟨fun g => ?_, fun g => ?_, fun g => ?_, trivial⟩, fun g => ?_⟩
  · have e : lang = 1 := (nI_eq (by omega) (by omega)).mp (h0.symm.trans g)
    subst e
    simp only [isArt] at hK
    refine t_reads hX hT hr hw (j := 0) h (by omega) ?_
    refine ⟨fun g2 => ?_, fun g2 => ?_⟩
    · rw [b2i_0] at g2
      exact k_b1 hK (by rw [(Bool.not_eq_false _).mp g2]; simp)
    · rw [b2i_0] at g2
      refine t_reads hX hT hr hw (j := 1) h (by omega) ?_
      refine ⟨fun g3 => ?_, fun g3 => ?_⟩
      · rw [b2i_0] at g3
        exact k_b1 hK (by rw [(Bool.not_eq_false _).mp g3]; simp)
      · rw [b2i_0] at g3
        refine t_reads hX hT hr hw (j := 2) h (by omega) ?_
        refine ⟨fun g4 => ?_, fun g4 => ?_⟩
        · rw [b2i_0] at g4
          exact k_b0 hK (by rw [g2, g3, g4]; rfl)
        · rw [b2i_0] at g4
          exact k_b1 hK (by rw [(Bool.not_eq_false _).mp g4]; simp)
  · have e : lang = 2 := (nI_eq (by omega) (by omega)).mp (h0.symm.trans g)
    subst e
    simp only [isArt] at hK
    refine t_reads hX hT hr hw (j := 3) h (by omega) ?_
    refine ⟨fun g2 => ?_, fun g2 => ?_⟩
    · rw [b2i_0] at g2
      exact k_b1 hK (by rw [(Bool.not_eq_false _).mp g2]; simp)
    · rw [b2i_0] at g2
      refine t_reads hX hT hr hw (j := 4) h (by omega) ?_
      refine ⟨fun g3 => ?_, fun g3 => ?_⟩
      · rw [b2i_0] at g3
        exact k_b1 hK (by rw [(Bool.not_eq_false _).mp g3]; simp)
      · rw [b2i_0] at g3
        refine t_reads hX hT hr hw (j := 5) h (by omega) ?_
        refine ⟨fun g4 => ?_, fun g4 => ?_⟩
        · rw [b2i_0] at g4
          exact k_b0 hK (by rw [g2, g3, g4]; rfl)
        · rw [b2i_0] at g4
          exact k_b1 hK (by rw [(Bool.not_eq_false _).mp g4]; simp)
  · have e : lang = 3 := (nI_eq (by omega) (by omega)).mp (h0.symm.trans g)
    subst e
    simp only [isArt] at hK
    refine t_reads hX hT hr hw (j := 6) h (by omega) ?_
    refine ⟨fun g2 => ?_, fun g2 => ?_⟩
    · rw [b2i_0] at g2
      exact k_b1 hK (by rw [(Bool.not_eq_false _).mp g2]; simp)
    · rw [b2i_0] at g2
      refine t_reads hX hT hr hw (j := 7) h (by omega) ?_
      refine ⟨fun g3 => ?_, fun g3 => ?_⟩
      · rw [b2i_0] at g3
        exact k_b1 hK (by rw [(Bool.not_eq_false _).mp g3]; simp)
      · rw [b2i_0] at g3
        refine t_reads hX hT hr hw (j := 8) h (by omega) ?_
        refine ⟨fun g4 => ?_, fun g4 => ?_⟩
        · rw [b2i_0] at g4
          exact k_b0 hK (by rw [g2, g3, g4]; rfl)
        · rw [b2i_0] at g4
          exact k_b1 hK (by rw [(Bool.not_eq_false _).mp g4]; simp)
  · have e : lang = 0 := by
      rw [h0, nI_toInt (by omega)] at g
      omega
    subst e
    exact k_b0 hK rfl
theorem rmn_le {f : Nat → Nat} {a e : Nat} (h : a ≤ e) : rmn f a e < 100000 := by
  have p1 := rp_in (f := f) (o := 109) (v := 0) (t := 0) h
  have p2 := rp_in (f := f) (o := 99) (v := 100) (t := 109) p1.2.1
  have p3 := rp_in (f := f) (o := 120) (v := 108) (t := 99) p2.2.1
  have p4 := rp_in (f := f) (o := 105) (v := 118) (t := 120) p3.2.1
  unfold rmn
  split <;> omega
theorem t_putInto (hX : a_okX X) (hr : rW σ S) (hw : wOK S) {k : List Nat} {nm : List (Nat × Bool × Nat)} {rom : Bool} (hk : cK σ k) (hn : cN σ nm) (h9 : σ 0 9 = b2i rom) (hnl : nm.length < 40) {w : Nat} (h : w < S.2.1.length) (hl : k.length + bb (sta S.2.1 (w + 1) - sta S.2.1 w) ≤ 240)
    (hK : ∀ σ', cK σ' (wk rom (fun j => S.1.getD j 0) (sta S.2.1 w) (sta S.2.1 (w + 1)) k) → cN σ' (wn rom (fun j => S.1.getD j 0) (sta S.2.1 w) (sta S.2.1 (w + 1)) nm) → (∀ q, q < 8 ∨ 14 < q → σ' q = σ q) → K σ' z none) : a_Meets X ad (a_LL ns) mX7_putIntoKey σ z [.ref 0, .int (nI w)] K := by
  have hae := hw.2.2.1 w h
  have hb2 : sta S.2.1 (w + 1) - sta S.2.1 w + 2 ≤ bb (sta S.2.1 (w + 1) - sta S.2.1 w) ∧ 6 ≤ bb (sta S.2.1 (w + 1) - sta S.2.1 w) := by
    unfold bb
    split <;> omega
  refine a_Meets.of hX oX7_putIntoKey (al0 := [(0, .ref 0), (1, .int (nI w))]) rfl rfl (fun AT step => ?_)
  unfold wk wn at hK
  refine step [(36, [0, 1])] 6 ?_
  refine t_isDigits hX hr hw h ?_
  refine ⟨fun g => ?_, fun g => ?_⟩
  · rw [b2i_0] at g
    rw [g] at hK
    simp only [Bool.false_eq_true, if_false] at hK
    have c49 : ∀ (σ1 : aS), (∀ q, q ≠ 8 → σ1 q = σ q) → ¬ (rom = true ∧ 0 < rmn (fun j => S.1.getD j 0) (sta S.2.1 w) (sta S.2.1 (w + 1))) → AT 36 0 0 σ1 z [(0, .ref 0), (1, .int (nI w))] [.int (nI 0)] := by
      intro σ1 f1 hno
      rw [if_neg hno, if_neg hno] at hK
      refine step [] 6 ?_
      refine ⟨fun _ => ?_, fun g2 => absurd (show nI 0 ≤ 0 by decide) g2⟩
      refine t_putWord hX (rW_congr (f1 5 (by decide)) (f1 6 (by decide)) (f1 7 (by decide)) hr) hw (cK_congr (f1 9 (by decide)) (f1 10 (by decide)) hk) h (by omega) (fun σ2 c2 g2 => ?_)
      exact hK σ2 c2 (cN_congr (by rw [g2 11 (by decide) (by decide), f1 11 (by decide)]) (by rw [g2 12 (by decide) (by decide), f1 12 (by decide)]) (by rw [g2 13 (by decide) (by decide), f1 13 (by decide)]) (by rw [g2 14 (by decide) (by decide), f1 14 (by decide)]) hn) (fun q hq => by rw [g2 q (by omega) (by omega), f1 q (by omega)])
    refine ⟨fun g2 => ?_, fun g2 => ?_⟩
    · rw [h9, b2i_0] at g2
      exact c49 σ (fun _ _ => rfl) (by rw [g2]; simp)
    · rw [h9, b2i_0] at g2
      have g2 := (Bool.not_eq_false _).mp g2
      refine t_rread hX hr hw h (fun σ1 f1 => ?_)
      by_cases hp : 0 < rmn (fun j => S.1.getD j 0) (sta S.2.1 w) (sta S.2.1 (w + 1))
      · rw [if_pos ⟨g2, hp⟩, if_pos ⟨g2, hp⟩] at hK
        have hv := rmn_le (f := fun j => S.1.getD j 0) (Nat.le_of_lt hae)
        have c36 : AT 36 0 0 σ1 z [(0, .ref 0), (1, .int (nI w))] [.int (nI (rmn (fun j => S.1.getD j 0) (sta S.2.1 w) (sta S.2.1 (w + 1))))] := by
          refine step [] 6 ?_
          refine ⟨fun g3 => ?_, fun _ => ?_⟩
          · rw [← nI_0, nI_leI (by omega) (by omega)] at g3
            omega
          · refine t_putRoman hX (cK_congr (f1 9 (by decide)) (f1 10 (by decide)) hk) (cN_congr (f1 11 (by decide)) (f1 12 (by decide)) (f1 13 (by decide)) (f1 14 (by decide)) hn) hnl hp hv (by omega) (fun σ2 c2 c3 g3 => ?_)
            exact hK σ2 c2 c3 (fun q hq => by rw [g3 q (by omega) (by omega) (by omega) (by omega) (by omega) (by omega), f1 q (by omega)])
        exact c36
      · have e0 : rmn (fun j => S.1.getD j 0) (sta S.2.1 w) (sta S.2.1 (w + 1)) = 0 := by omega
        rw [e0]
        exact c49 σ1 f1 (by rw [e0]; simp)
  · rw [b2i_0] at g
    rw [(Bool.not_eq_false _).mp g] at hK
    simp only [if_true] at hK
    refine t_putDigits hX hr hw hk hn hnl h (by omega) rfl (fun σ1 c1 c2 g1 => ?_)
    exact hK σ1 c1 c2 (fun q hq => g1 q (by omega) (by omega) (by omega) (by omega) (by omega) (by omega))
theorem t_X7_key (hX : a_okX X) (hT : a_okT X ad (a_LL ns)) {l : List Nat} {left lang : Nat} {rom : Bool} {sp : Nat → Bool} (hl : l.length ≤ 80) (hle : left ≤ l.length) (hc : ∀ x ∈ l, x < 256) (hlang : lang < 4) (h1 : σ 1 1 = nI l.length) (h2 : σ 1 2 = nI left) (h3 : ∀ j, j < l.length → σ 2 j = nI (l.getD j 0)) (h4 : ∀ j, j < 127 → σ 4 j = b2i (sp j)) (h8 : σ 0 8 = nI lang) (h9 : σ 0 9 = b2i rom)
    (hK : ∀ σ', σ' 1 1 = nI 0 → σ' 1 2 = nI 0 → cK σ' (mKey l left lang rom sp).1 → cN σ' (mKey l left lang rom sp).2 → (mKey l left lang rom sp).1.length ≤ 240 → (mKey l left lang rom sp).2.length ≤ 40 → (∀ q, q ≠ 1 → (q < 5 ∨ 14 < q) → σ' q = σ q) → K σ' z (some (.int (nI (mKey l left lang rom sp).1.length)))) : a_Meets X ad (a_LL ns) mX7_key σ z [.ref 0] K := by
  have hw : wOK (sSplit sp (l.drop left)) := wOK_split (by simp; omega) (fun x hx => hc x (List.mem_of_mem_drop hx))
  unfold mKey at hK
  refine a_Meets.of hX oX7_key (al0 := [(0, .ref 0)]) rfl rfl (fun AT step => ?_)
  refine step [(49, [0]), (48, [0]), (73, [0]), (74, [0, 2])] 6 ?_
  refine t_X6_read hX hl hle hc h1 h2 h3 h4 (fun σ1 r1 f1 => ?_)
  generalize sSplit sp (l.drop left) = S at hK hw r1
  have hBs := Bs_240 hw
  have hwl := hw.2.1
  -- from the first word on
  have loop : ∀ (n w : Nat) (x : Int32) (a : List Nat × List (Nat × Bool × Nat)) (σ2 : aS), x = nI w → w + n = S.2.1.length → cK σ2 a.1 → cN σ2 a.2 → a.1.length + Bs S.2.1 w n ≤ 240 → a.2.length ≤ w → (∀ q, q < 8 ∨ 14 < q → σ2 q = σ1 q) → kf rom (fun j => S.1.getD j 0) S.2.1 w n a = kf rom (fun j => S.1.getD j 0) S.2.1 (mFirst left lang S) (S.2.1.length - mFirst left lang S) ([], []) → AT 74 0 0 σ2 z [(0, .ref 0), (2, .int x)] [] := by
    intro n
    induction n with
    | zero =>
      intro w x a σ2 hx hwn ck cn hb hnl f2 hkf
      subst hx
      have f5 : σ2 5 3 = nI S.2.1.length := by rw [f2 5 (by omega)]; exact r1.2.1
      refine step [(74, [0, 2])] 6 ?_
      refine ⟨fun g => ?_, fun g => ?_⟩
      · refine t_X5_clear hX ?_
        have ck' : cK (a_up (a_up σ2 1 1 (nI 0)) 1 2 (nI 0)) a.1 := cK_congr (by rw [a_up_ne (by decide), a_up_ne (by decide)]) (by rw [a_up_ne (by decide), a_up_ne (by decide)]) ck
        show K _ _ (some (.int (a_up (a_up σ2 1 1 (nI 0)) 1 2 (nI 0) 9 1)))
        rw [ck'.1]
        simp only [kf] at hkf
        rw [← hkf] at hK
        refine hK _ ?_ ?_ ck' ?_ (by simp only [Bs] at hb; omega) (by omega) (fun q hq1 hq2 => ?_)
        · simp [a_up]
        · simp [a_up]
        · exact cN_congr (by rw [a_up_ne (by decide), a_up_ne (by decide)]) (by rw [a_up_ne (by decide), a_up_ne (by decide)]) (by rw [a_up_ne (by decide), a_up_ne (by decide)]) (by rw [a_up_ne (by decide), a_up_ne (by decide)]) cn
        · rw [a_up_ne hq1, a_up_ne hq1, f2 q (by omega), f1 q (by omega) (by omega) (by omega)]
      · rw [f5, nI_leI (by omega) (by omega)] at g
        omega
    | succ n ih =>
      intro w x a σ2 hx hwn ck cn hb hnl f2 hkf
      subst hx
      have f5 : σ2 5 3 = nI S.2.1.length := by rw [f2 5 (by omega)]; exact r1.2.1
      refine step [(74, [0, 2])] 6 ?_
      refine ⟨fun g => ?_, fun g => ?_⟩
      · rw [f5, nI_leI (by omega) (by omega)] at g
        omega
      · simp only [Bs] at hb
        simp only [kf] at hkf
        have hae := hw.2.2.1 w (by omega)
        refine t_putInto hX (rW_congr (f2 5 (by omega)) (f2 6 (by omega)) (f2 7 (by omega)) r1) hw ck cn (rom := rom) (by rw [f2 0 (by omega), f1 0 (by decide) (by decide) (by decide)]; exact h9) (by omega) (by omega) (by omega) (fun σ3 c3 c4 f3 => ?_)
        have hl1 := wk_len (rom := rom) (f := fun j => S.1.getD j 0) (k := a.1) hae
        have hl2 := wn_len (rom := rom) (f := fun j => S.1.getD j 0) (a := sta S.2.1 w) (e := sta S.2.1 (w + 1)) (ns := a.2)
        exact ih (w + 1) _ _ σ3 (nI_add w 1) (by omega) c3 c4 (by dsimp only; omega) (by dsimp only; omega) (fun q hq => by rw [f3 q hq, f2 q hq]) hkf
  have c49 : ∀ (b : Bool) (x : Int32), x = b2i b → mFirst left lang S = (if b = true then 1 else 0) → mFirst left lang S ≤ S.2.1.length → AT 49 0 0 σ1 z [(0, .ref 0)] [.int x] := by
    intro b x hx hb hle2
    subst hx
    have c73 : ∀ (y : Int32) (σ2 : aS), y = nI (mFirst left lang S) → cK σ2 [] → cN σ2 [] → (∀ q, q < 8 ∨ 14 < q → σ2 q = σ1 q) → AT 73 0 0 σ2 z [(0, .ref 0)] [.int y] := by
      intro y σ2 hy ck cn f2
      refine step [(74, [0, 2])] 6 ?_
      refine loop (S.2.1.length - mFirst left lang S) (mFirst left lang S) y ([], []) σ2 hy (by omega) ck cn ?_ (Nat.zero_le _) f2 rfl
      show 0 + Bs S.2.1 (mFirst left lang S) (S.2.1.length - mFirst left lang S) ≤ 240
      rw [Nat.zero_add]
      have h01 : mFirst left lang S = 0 ∨ mFirst left lang S = 1 := by rw [hb]; split <;> simp
      rcases h01 with e | e
      · rw [e]; exact hBs
      · rw [e]
        have : Bs S.2.1 0 S.2.1.length = bb (sta S.2.1 1 - sta S.2.1 0) + Bs S.2.1 1 (S.2.1.length - 1) := by
          conv => lhs; rw [show S.2.1.length = (S.2.1.length - 1) + 1 by omega]
          rfl
        omega
    refine step [(73, [0])] 6 ?_
    refine t_X1_clear hX ?_
    refine t_X3_clear hX ?_
    have ck : cK (a_up (a_up σ1 9 1 (nI 0)) 11 3 (nI 0)) [] := ⟨by simp [a_up], fun j hj => by simp at hj⟩
    have cn : cN (a_up (a_up σ1 9 1 (nI 0)) 11 3 (nI 0)) [] := ⟨by simp [a_up], fun j hj => by simp at hj⟩
    have ff : ∀ q, q < 8 ∨ 14 < q → a_up (a_up σ1 9 1 (nI 0)) 11 3 (nI 0) q = σ1 q := fun q hq => by rw [a_up_ne (by omega), a_up_ne (by omega)]
    refine ⟨fun g => ?_, fun g => ?_⟩
    · rw [b2i_0] at g
      rw [g] at hb
      exact c73 _ _ (by rw [hb]; rfl) ck cn ff
    · rw [b2i_0] at g
      rw [(Bool.not_eq_false _).mp g] at hb
      exact c73 _ _ (by rw [hb]; rfl) ck cn ff
  have c48 : mFirst left lang S = 0 → AT 48 0 0 σ1 z [(0, .ref 0)] [] := by
    intro h0
    refine step [(49, [0])] 6 ?_
    exact c49 false _ rfl (by rw [h0]; rfl) (by omega)
  refine t_X5_isLeftOutTold hX (n := left) (by omega) (by rw [f1 1 (by decide) (by decide) (by decide)]; exact h2) ?_
  refine ⟨fun g => ?_, fun g => ?_⟩
  · rw [b2i_0] at g
    have g : 0 < left := by
      simp at g
      omega
    exact c48 (by unfold mFirst; rw [decide_eq_false (show ¬ left = 0 by omega)]; simp)
  · rw [b2i_0] at g
    have g : left = 0 := by simpa using g
    refine ⟨fun g2 => ?_, fun g2 => ?_⟩
    · rw [r1.2.1, nI_leI (by omega) (by omega)] at g2
      exact c48 (by unfold mFirst; rw [decide_eq_false (show ¬ 1 < S.2.1.length by omega)]; simp)
    · rw [r1.2.1, nI_leI (by omega) (by omega)] at g2
      refine t_isArticle hX hT r1 hw (w := 0) (lang := lang) (by omega) hlang (by rw [f1 0 (by decide) (by decide) (by decide)]; exact h8) ?_
      refine ⟨fun g3 => ?_, fun g3 => ?_⟩
      · rw [b2i_0] at g3
        exact c48 (by unfold mFirst; rw [show sta S.2.1 1 = sta S.2.1 (0 + 1) from rfl, g3]; simp)
      · rw [b2i_0] at g3
        have e1 : mFirst left lang S = 1 := by
          unfold mFirst
          rw [show sta S.2.1 1 = sta S.2.1 (0 + 1) from rfl, (Bool.not_eq_false _).mp g3, decide_eq_true g, decide_eq_true (show 1 < S.2.1.length by omega)]
          rfl
        exact c49 true _ rfl (by rw [e1]; rfl) (by omega)
end Ky
