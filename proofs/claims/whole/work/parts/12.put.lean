/-! A word goes into the key -/
def rdg (v : Nat) : Nat := if 1000 ≤ v then 4 else if 100 ≤ v then 3 else if 10 ≤ v then 2 else 1
def rb1 (v u : Nat) (k : List Nat) : List Nat := if u ≤ v then k ++ [48 + v / u % 10] else k
def rbs (v : Nat) (k : List Nat) : List Nat := rb1 v 1 (rb1 v 10 (rb1 v 100 (rb1 v 1000 k)))
def wk (rom : Bool) (f : Nat → Nat) (a e : Nat) (k : List Nat) : List Nat :=
  if aD f a (e - a) then ap f (k ++ [2] ++ [e - fz f a (e - a)]) (fz f a (e - a)) (e - fz f a (e - a))
  else if rom = true ∧ 0 < rmn f a e then rbs (rmn f a e) (k ++ [2] ++ [rdg (rmn f a e)]) else ap f (k ++ [3]) a (e - a) ++ [0]
def wn (rom : Bool) (f : Nat → Nat) (a e : Nat) (ns : List (Nat × Bool × Nat)) : List (Nat × Bool × Nat) :=
  if aD f a (e - a) then ns ++ [(e - fz f a (e - a), false, tlv f e 0 (fz f a (e - a)) (e - fz f a (e - a)))]
  else if rom = true ∧ 0 < rmn f a e then ns ++ [(rdg (rmn f a e), true, rmn f a e)] else ns
def bb (n : Nat) : Nat := 3 * n + (if n = 1 then 3 else 0)
theorem rb1_len (v u : Nat) (k : List Nat) : (rb1 v u k).length ≤ k.length + 1 := by
  unfold rb1
  split <;> simp
theorem rbs_len {v : Nat} {k : List Nat} : (rbs v k).length ≤ k.length + 4 := by
  have h1 := rb1_len v 1000 k
  have h2 := rb1_len v 100 (rb1 v 1000 k)
  have h3 := rb1_len v 10 (rb1 v 100 (rb1 v 1000 k))
  have h4 := rb1_len v 1 (rb1 v 10 (rb1 v 100 (rb1 v 1000 k)))
  unfold rbs
  omega
theorem wk_len {rom : Bool} {f : Nat → Nat} {a e : Nat} {k : List Nat} (h : a < e) : (wk rom f a e k).length ≤ k.length + bb (e - a) := by
  unfold wk bb
  have h1 := fz_in f (e - a) a
  have h2 := h1.2 (by omega)
  split
  · rw [ap_len]
    simp
    split <;> omega
  · split
    · have := rbs_len (v := rmn f a e) (k := k ++ [2] ++ [rdg (rmn f a e)])
      simp at this ⊢
      split <;> omega
    · simp [ap_len]
      split <;> omega
theorem wn_len {rom : Bool} {f : Nat → Nat} {a e : Nat} {ns : List (Nat × Bool × Nat)} : (wn rom f a e ns).length ≤ ns.length + 1 := by
  unfold wn
  split
  · simp
  · split <;> simp
theorem rW_congr {σ σ' : aS} {S : sS} (h5 : σ' 5 = σ 5) (h6 : σ' 6 = σ 6) (h7 : σ' 7 = σ 7) (h : rW σ S) : rW σ' S := by
  unfold rW
  rw [h5, h6, h7]
  exact h
theorem cK_congr {σ σ' : aS} {k : List Nat} (h9 : σ' 9 = σ 9) (h10 : σ' 10 = σ 10) (h : cK σ k) : cK σ' k := by
  unfold cK
  rw [h9, h10]
  exact h
theorem cN_congr {σ σ' : aS} {ns : List (Nat × Bool × Nat)} (h1 : σ' 11 = σ 11) (h2 : σ' 12 = σ 12) (h3 : σ' 13 = σ 13) (h4 : σ' 14 = σ 14) (h : cN σ ns) : cN σ' ns := by
  unfold cN
  rw [h1, h2, h3, h4]
  exact h
section Pt
variable {X : aX} {ad : Nat → Nat} {ns : List Nat} {σ : aS} {z : aZ} {K : aS → aZ → Option Value → Prop} {S : sS}
theorem t_kput (hX : a_okX X) {k : List Nat} {x : Int32} {b : Nat} (hx : x = nI b) (hb : b < 128) (hk : cK σ k) (hl : k.length < 240) (hK : ∀ σ', cK σ' (k ++ [b]) → (∀ q, q ≠ 9 → q ≠ 10 → σ' q = σ q) → K σ' z none) : a_Meets X ad (a_LL ns) mX1_put σ z [.ref 9, .int x] K := by
  subst hx
  refine t_X1_put hX hl hk.1 ?_
  rw [nar_by b hb]
  refine hK _ ⟨by simp [a_up], fun j hj => ?_⟩ (fun q g1 g2 => ?_)
  · rw [getD_app]
    simp only [a_up, show (10 : Nat) ≠ 9 by decide, if_false, if_true]
    split
    · rfl
    · simp at hj
      exact hk.2 j (by omega)
  · rw [a_up_ne g1, a_up_ne g2]
theorem t_knote (hX : a_okX X) {nm : List (Nat × Bool × Nat)} {x y : Int32} {d t : Nat} {w : Bool} (hx : x = nI d) (hy : y = nI t) (hk : cN σ nm) (hl : nm.length < 40) (hK : ∀ σ', cN σ' (nm ++ [(d, w, t)]) → (∀ q, q ≠ 11 → q ≠ 12 → q ≠ 13 → q ≠ 14 → σ' q = σ q) → K σ' z none) : a_Meets X ad (a_LL ns) mX3_note σ z [.ref 11, .int x, .int (b2i w), .int y] K := by
  subst hx
  subst hy
  refine t_X3_note hX hl hk.1 ?_
  refine hK _ ⟨by simp [a_up], fun j hj => ?_⟩ (fun q g1 g2 g3 g4 => ?_)
  · rw [getD_app]
    simp at hj
    by_cases e : j = nm.length
    · subst e
      simp [a_up]
    · simp only [a_up, show (12 : Nat) ≠ 11 by decide, show (12 : Nat) ≠ 13 by decide, show (12 : Nat) ≠ 14 by decide, show (13 : Nat) ≠ 11 by decide, show (13 : Nat) ≠ 12 by decide, show (13 : Nat) ≠ 14 by decide, show (14 : Nat) ≠ 11 by decide, if_false, if_true, e]
      exact hk.2 j (by omega)
  · rw [a_up_ne g1, a_up_ne g4, a_up_ne g3, a_up_ne g2]
theorem t_rread (hX : a_okX X) (hr : rW σ S) (hw : wOK S) {w : Nat} (h : w < S.2.1.length) (hK : ∀ σ', (∀ q, q ≠ 8 → σ' q = σ q) → K σ' z (some (.int (nI (rmn (fun j => S.1.getD j 0) (sta S.2.1 w) (sta S.2.1 (w + 1))))))) : a_Meets X ad (a_LL ns) mX4_read σ z [.ref 8, .int (nI w)] K := by
  have he := hw.2.2.2.1 (w + 1) (by omega)
  have hae := hw.2.2.1 w h
  have hl := hw.1
  have rk : ∀ σ1 : aS, (∀ q, q ≠ 8 → σ1 q = σ q) → rW σ1 S := fun σ1 h1 => rW_congr (h1 5 (by decide)) (h1 6 (by decide)) (h1 7 (by decide)) hr
  refine a_Meets.of hX oX4_read (al0 := [(0, .ref 8), (1, .int (nI w))]) rfl rfl (fun AT step => ?_)
  refine step [] 5 ?_
  refine t_start hX hr hw (by omega) ?_
  have f1 : ∀ q, q ≠ 8 → a_up σ 8 1 (nI (sta S.2.1 w)) q = σ q := fun q hq => a_up_ne hq
  refine t_end hX (rk _ f1) hw h ?_
  generalize hee : sta S.2.1 (w + 1) = e at *
  generalize haa : sta S.2.1 w = a at *
  have f2 : ∀ q, q ≠ 8 → a_up (a_up σ 8 1 (nI a)) 8 2 (nI e) q = σ q := fun q hq => by rw [a_up_ne hq, a_up_ne hq]
  have R2 : rR (a_up (a_up σ 8 1 (nI a)) 8 2 (nI e)) a e := ⟨by simp [a_up], by simp [a_up]⟩
  show a_Meets _ _ _ _ (a_up (a_up σ 8 1 (nI a)) 8 2 (nI e)) _ _ _
  generalize a_up (a_up σ 8 1 (nI a)) 8 2 (nI e) = σ2 at f2 R2 ⊢
  have p1 := rp_in (f := fun j => S.1.getD j 0) (o := 109) (v := 0) (t := 0) (Nat.le_of_lt hae)
  refine t_readPlace hX (o := 109) (v := 0) (t := 0) (rk _ f2) hw R2 (by omega) he (by omega) (by omega) (by omega) (fun σ3 R3 g3 => ?_)
  have f3 : ∀ q, q ≠ 8 → σ3 q = σ q := fun q hq => by rw [g3 q hq, f2 q hq]
  have p2 := rp_in (f := fun j => S.1.getD j 0) (o := 99) (v := 100) (t := 109) p1.2.1
  refine t_readPlace hX (o := 99) (v := 100) (t := 109) (rk _ f3) hw R3 (by omega) he (by omega) (by omega) (by omega) (fun σ4 R4 g4 => ?_)
  have f4 : ∀ q, q ≠ 8 → σ4 q = σ q := fun q hq => by rw [g4 q hq, f3 q hq]
  have p3 := rp_in (f := fun j => S.1.getD j 0) (o := 120) (v := 108) (t := 99) p2.2.1
  refine t_readPlace hX (o := 120) (v := 108) (t := 99) (rk _ f4) hw R4 (by omega) he (by omega) (by omega) (by omega) (fun σ5 R5 g5 => ?_)
  have f5 : ∀ q, q ≠ 8 → σ5 q = σ q := fun q hq => by rw [g5 q hq, f4 q hq]
  have p4 := rp_in (f := fun j => S.1.getD j 0) (o := 105) (v := 118) (t := 120) p3.2.1
  refine t_readPlace hX (o := 105) (v := 118) (t := 120) (rk _ f5) hw R5 (by omega) he (by omega) (by omega) (by omega) (fun σ6 R6 g6 => ?_)
  have f6 : ∀ q, q ≠ 8 → σ6 q = σ q := fun q hq => by rw [g6 q hq, f5 q hq]
  have hK := hK σ6 f6
  unfold rmn at hK
  refine ⟨fun g => ?_, fun g => ?_⟩
  · rw [R6.1, R6.2] at g
    rw [if_neg (fun q => g (by rw [q]))] at hK
    exact hK
  · rw [R6.1, R6.2] at g
    rw [if_pos ((nI_eq (by omega) (by omega)).mp g)] at hK
    show K _ _ (some (.int (((nI _ * nI 10 + nI _) * nI 10 + nI _) * nI 10 + nI _)))
    rw [pk_mul, nI_add, pk_mul, nI_add, pk_mul, nI_add]
    refine (congrArg (fun u => K σ6 z (some (.int (nI u)))) ?_).mp hK
    omega
theorem t_putWord (hX : a_okX X) (hr : rW σ S) (hw : wOK S) {k : List Nat} (hk : cK σ k) {w : Nat} (h : w < S.2.1.length) (hl : k.length + 2 + (sta S.2.1 (w + 1) - sta S.2.1 w) ≤ 240)
    (hK : ∀ σ', cK σ' (ap (fun j => S.1.getD j 0) (k ++ [3]) (sta S.2.1 w) (sta S.2.1 (w + 1) - sta S.2.1 w) ++ [0]) → (∀ q, q ≠ 9 → q ≠ 10 → σ' q = σ q) → K σ' z none) : a_Meets X ad (a_LL ns) mX7_putWord σ z [.ref 0, .int (nI w)] K := by
  have he := hw.2.2.2.1 (w + 1) (by omega)
  have hae := hw.2.2.1 w h
  have hl0 := hw.1
  have rk : ∀ σ1 : aS, (∀ q, q ≠ 9 → q ≠ 10 → σ1 q = σ q) → rW σ1 S := fun σ1 h1 => rW_congr (h1 5 (by decide) (by decide)) (h1 6 (by decide) (by decide)) (h1 7 (by decide) (by decide)) hr
  refine a_Meets.of hX oX7_putWord (al0 := [(0, .ref 0), (1, .int (nI w))]) rfl rfl (fun AT step => ?_)
  have loop : ∀ (n i : Nat) (x : Int32) (k1 : List Nat) (σ1 : aS), x = nI i → i + n = sta S.2.1 (w + 1) → cK σ1 k1 → (∀ q, q ≠ 9 → q ≠ 10 → σ1 q = σ q) → k1.length + n + 1 ≤ 240 → ap (fun j => S.1.getD j 0) k1 i n = ap (fun j => S.1.getD j 0) (k ++ [3]) (sta S.2.1 w) (sta S.2.1 (w + 1) - sta S.2.1 w) → AT 17 0 0 σ1 z [(0, .ref 0), (1, .int (nI w)), (2, .int x)] [] := by
    intro n
    induction n with
    | zero =>
      intro i x k1 σ1 hx hi hk1 hf hkl hap
      subst hx
      refine step [(17, [0, 1, 2])] 5 ?_
      refine t_end hX (rk _ hf) hw h ?_
      refine ⟨fun g => ?_, fun g => ?_⟩
      · refine t_kput hX (b := 0) rfl (by omega) hk1 (by omega) (fun σ2 c2 g2 => ?_)
        simp only [ap] at hap
        rw [hap] at c2
        exact hK σ2 c2 (fun q q1 q2 => by rw [g2 q q1 q2, hf q q1 q2])
      · rw [nI_leI (by omega) (by omega)] at g
        omega
    | succ n ih =>
      intro i x k1 σ1 hx hi hk1 hf hkl hap
      subst hx
      refine step [(17, [0, 1, 2])] 5 ?_
      refine t_end hX (rk _ hf) hw h ?_
      refine ⟨fun g => ?_, fun g => ?_⟩
      · rw [nI_leI (by omega) (by omega)] at g
        omega
      · refine t_sign hX (rk _ hf) hw (by omega) ?_
        refine t_kput hX rfl (hw.2.2.2.2.1 i (by omega)).2 hk1 (by omega) (fun σ2 c2 g2 => ?_)
        exact ih (i + 1) _ _ σ2 (nI_add i 1) (by omega) c2 (fun q q1 q2 => by rw [g2 q q1 q2, hf q q1 q2]) (by simp; omega) hap
  refine step [(17, [0, 1, 2])] 5 ?_
  refine t_kput hX (b := 3) rfl (by omega) hk (by omega) (fun σ2 c2 g2 => ?_)
  refine t_start hX (rk _ g2) hw (by omega) ?_
  exact loop (sta S.2.1 (w + 1) - sta S.2.1 w) _ _ _ σ2 rfl (by omega) c2 g2 (by simp; omega) rfl
theorem t_putDigits (hX : a_okX X) (hr : rW σ S) (hw : wOK S) {k : List Nat} {nm : List (Nat × Bool × Nat)} (hk : cK σ k) (hn : cN σ nm) (hnl : nm.length < 40) {w : Nat} (h : w < S.2.1.length) (hl : k.length + 2 + (sta S.2.1 (w + 1) - sta S.2.1 w) ≤ 240) {fo : Nat} (hfo : fo = fz (fun j => S.1.getD j 0) (sta S.2.1 w) (sta S.2.1 (w + 1) - sta S.2.1 w))
    (hK : ∀ σ', cK σ' (ap (fun j => S.1.getD j 0) (k ++ [2] ++ [sta S.2.1 (w + 1) - fo]) fo (sta S.2.1 (w + 1) - fo)) → cN σ' (nm ++ [(sta S.2.1 (w + 1) - fo, false, tlv (fun j => S.1.getD j 0) (sta S.2.1 (w + 1)) 0 fo (sta S.2.1 (w + 1) - fo))]) → (∀ q, q ≠ 9 → q ≠ 10 → q ≠ 11 → q ≠ 12 → q ≠ 13 → q ≠ 14 → σ' q = σ q) → K σ' z none) : a_Meets X ad (a_LL ns) mX7_putDigits σ z [.ref 0, .int (nI w)] K := by
  have he := hw.2.2.2.1 (w + 1) (by omega)
  have hae := hw.2.2.1 w h
  have hl0 := hw.1
  have hz := fz_in (fun j => S.1.getD j 0) (sta S.2.1 (w + 1) - sta S.2.1 w) (sta S.2.1 w)
  have hz2 := hz.2 (by omega)
  rw [← hfo] at hz hz2
  have rk : ∀ σ1 : aS, (∀ q, q ≠ 9 → q ≠ 10 → σ1 q = σ q) → rW σ1 S := fun σ1 h1 => rW_congr (h1 5 (by decide) (by decide)) (h1 6 (by decide) (by decide)) (h1 7 (by decide) (by decide)) hr
  refine a_Meets.of hX oX7_putDigits (al0 := [(0, .ref 0), (1, .int (nI w))]) rfl rfl (fun AT step => ?_)
  generalize hee : sta S.2.1 (w + 1) = e at *
  generalize haa : sta S.2.1 w = a at *
  have loop2 : ∀ (n i t : Nat) (x y : Int32) (k1 : List Nat) (σ1 : aS), x = nI i → y = nI t → i + n = e → fo ≤ i → cK σ1 k1 → (∀ q, q ≠ 9 → q ≠ 10 → σ1 q = σ q) → k1.length + n ≤ 240 → ap (fun j => S.1.getD j 0) k1 i n = ap (fun j => S.1.getD j 0) (k ++ [2] ++ [e - fo]) fo (e - fo) → tlv (fun j => S.1.getD j 0) e t i n = tlv (fun j => S.1.getD j 0) e 0 fo (e - fo) →
      AT 68 0 0 σ1 z [(0, .ref 0), (1, .int (nI w)), (2, .int (nI e)), (3, .int (nI fo)), (4, .int y), (5, .int x)] [] := by
    intro n
    induction n with
    | zero =>
      intro i t x y k1 σ1 hx hy hi hfi hk1 hf hkl hap htl
      subst hx
      subst hy
      refine step [(68, [0, 1, 2, 3, 4, 5]), (116, [0, 1, 2, 3, 4, 5])] 5 ?_
      refine ⟨fun g => ?_, fun g => ?_⟩
      · have hn1 : cN σ1 nm := cN_congr (hf 11 (by decide) (by decide)) (hf 12 (by decide) (by decide)) (hf 13 (by decide) (by decide)) (hf 14 (by decide) (by decide)) hn
        simp only [ap] at hap
        simp only [tlv] at htl
        subst hap
        subst htl
        refine t_knote hX (d := e - fo) (w := false) (pk_sub (by omega)) rfl hn1 hnl (fun σ2 c2 g2 => ?_)
        exact hK σ2 (cK_congr (g2 9 (by decide) (by decide) (by decide) (by decide)) (g2 10 (by decide) (by decide) (by decide) (by decide)) hk1) c2 (fun q q1 q2 q3 q4 q5 q6 => by rw [g2 q q3 q4 q5 q6, hf q q1 q2])
      · rw [nI_leI (by omega) (by omega)] at g
        omega
    | succ n ih =>
      intro i t x y k1 σ1 hx hy hi hfi hk1 hf hkl hap htl
      subst hx
      subst hy
      refine step [(68, [0, 1, 2, 3, 4, 5]), (116, [0, 1, 2, 3, 4, 5])] 5 ?_
      refine ⟨fun g => ?_, fun g => ?_⟩
      · rw [nI_leI (by omega) (by omega)] at g
        omega
      · have hb := hw.2.2.2.2.1 i (by omega)
        refine t_sign hX (rk _ hf) hw (by omega) ?_
        refine t_kput hX rfl hb.2 hk1 (by omega) (fun σ2 c2 g2 => ?_)
        simp only [ap] at hap
        simp only [tlv] at htl
        have nxt : ∀ (y : Int32), y = nI (if e ≤ i + 9 then 10 * t + (S.1.getD i 0 - 48) else t) → AT 116 0 0 σ2 z [(0, .ref 0), (1, .int (nI w)), (2, .int (nI e)), (3, .int (nI fo)), (4, .int y), (5, .int (nI i))] [] := by
          intro y hy
          refine step [(68, [0, 1, 2, 3, 4, 5])] 5 ?_
          exact ih (i + 1) _ _ y _ σ2 (nI_add i 1) hy (by omega) (by omega) c2 (fun q q1 q2 => by rw [g2 q q1 q2, hf q q1 q2]) (by simp; omega) hap htl
        refine ⟨fun g3 => ?_, fun g3 => ?_⟩
        · rw [Int32.lt_iff_toInt_lt, pk_sub_toInt (by omega) (by omega), nI_toInt (by omega)] at g3
          exact nxt _ (by rw [if_neg (by omega)])
        · rw [Int32.lt_iff_toInt_lt, pk_sub_toInt (by omega) (by omega), nI_toInt (by omega)] at g3
          refine nxt _ ?_
          rw [if_pos (by omega), pk_mul, pk_sub hb.1, nI_add, Nat.mul_comm]
  have c44 : ∀ (x : Int32), x = nI fo → AT 44 0 0 σ z [(0, .ref 0), (1, .int (nI w)), (2, .int (nI e)), (3, .int x)] [] := by
    intro x hx
    subst hx
    refine step [(68, [0, 1, 2, 3, 4, 5])] 5 ?_
    refine t_kput hX (b := 2) rfl (by omega) hk (by omega) (fun σ2 c2 g2 => ?_)
    refine t_kput hX (b := e - fo) (pk_sub (by omega)) (by omega) c2 (by simp; omega) (fun σ3 c3 g3 => ?_)
    exact loop2 (e - fo) fo 0 _ _ _ σ3 rfl rfl (by omega) (Nat.le_refl _) c3 (fun q q1 q2 => by rw [g3 q q1 q2, g2 q q1 q2]) (by simp; omega) rfl rfl
  have loop1 : ∀ (n i : Nat) (x : Int32), x = nI i → i + n = e → 0 < n → fz (fun j => S.1.getD j 0) i n = fo → AT 18 0 0 σ z [(0, .ref 0), (1, .int (nI w)), (2, .int (nI e)), (3, .int x)] [] := by
    intro n
    induction n with
    | zero => intro i x _ _ h0; omega
    | succ n ih =>
      intro i x hx hi _ hfz
      subst hx
      unfold fz at hfz
      refine step [(18, [0, 1, 2, 3]), (44, [0, 1, 2, 3])] 5 ?_
      refine ⟨fun g => ?_, fun g => ?_⟩
      · rw [pk_sub (by omega), nI_leI (by omega) (by omega)] at g
        rw [if_neg (by omega)] at hfz
        exact c44 _ (by rw [hfz])
      · rw [pk_sub (by omega), nI_leI (by omega) (by omega)] at g
        have hb := hw.2.2.2.2.1 i (by omega)
        refine t_sign hX hr hw (by omega) ?_
        refine ⟨fun g2 => ?_, fun g2 => ?_⟩
        · rw [if_neg (fun q => g2 (by rw [q.2]))] at hfz
          exact c44 _ (by rw [hfz])
        · have g2 := (nI_eq (by omega) (by omega)).mp g2
          rw [if_pos ⟨by omega, g2⟩] at hfz
          exact ih (i + 1) _ (nI_add i 1) (by omega) (by omega) hfz
  refine step [(18, [0, 1, 2, 3])] 5 ?_
  refine t_end hX hr hw h ?_
  refine t_start hX hr hw (by omega) ?_
  rw [hee, haa]
  exact loop1 (e - a) a _ rfl (by omega) (by omega) hfo.symm
theorem t_putRoman (hX : a_okX X) {k : List Nat} {nm : List (Nat × Bool × Nat)} (hk : cK σ k) (hn : cN σ nm) (hnl : nm.length < 40) {v : Nat} (hv : 0 < v) (hv2 : v < 100000) (hl : k.length + 6 ≤ 240)
    (hK : ∀ σ', cK σ' (rbs v (k ++ [2] ++ [rdg v])) → cN σ' (nm ++ [(rdg v, true, v)]) → (∀ q, q ≠ 9 → q ≠ 10 → q ≠ 11 → q ≠ 12 → q ≠ 13 → q ≠ 14 → σ' q = σ q) → K σ' z none) : a_Meets X ad (a_LL ns) mX7_putRoman σ z [.ref 0, .int (nI v)] K := by
  refine a_Meets.of hX oX7_putRoman (al0 := [(0, .ref 0), (1, .int (nI v))]) rfl rfl (fun AT step => ?_)
  have stage : ∀ (u : Nat) (k1 : List Nat) (σ1 : aS), 0 < u → u ≤ 1000 → cK σ1 k1 → k1.length < 240 → (∀ q, q ≠ 9 → q ≠ 10 → σ1 q = σ q) → (∀ (x : Int32) (σ2 : aS), x = nI (u / 10) → cK σ2 (rb1 v u k1) → (∀ q, q ≠ 9 → q ≠ 10 → σ2 q = σ q) → AT 53 0 0 σ2 z [(0, .ref 0), (1, .int (nI v)), (2, .int (nI (rdg v))), (3, .int x)] []) → AT 53 0 0 σ1 z [(0, .ref 0), (1, .int (nI v)), (2, .int (nI (rdg v))), (3, .int (nI u))] [] := by
    intro u k1 σ1 hu hu2 c1 hl1 f1 cont
    have nxt : ∀ σ2 : aS, cK σ2 (rb1 v u k1) → (∀ q, q ≠ 9 → q ≠ 10 → σ2 q = σ q) → AT 78 0 0 σ2 z [(0, .ref 0), (1, .int (nI v)), (2, .int (nI (rdg v))), (3, .int (nI u))] [] := by
      intro σ2 c2 f2
      refine step [(53, [0, 1, 2, 3])] 5 ?_
      refine ⟨by decide, ?_⟩
      exact cont _ σ2 (pk_div (by omega) (by omega) (by omega)) c2 f2
    refine step [(53, [0, 1, 2, 3]), (78, [0, 1, 2, 3])] 5 ?_
    refine ⟨fun g => ?_, fun g => ⟨fun g2 => ?_, fun g2 => ?_⟩⟩
    · rw [← nI_0, nI_leI (by omega) (by omega)] at g
      omega
    · rw [nI_ltI (by omega) (by omega)] at g2
      exact nxt σ1 (by unfold rb1; rw [if_neg (by omega)]; exact c1) f1
    · rw [nI_ltI (by omega) (by omega)] at g2
      refine ⟨nI_ne0 hu (by omega), by decide, ?_⟩
      refine t_kput hX (b := 48 + v / u % 10) ?_ (by omega) c1 hl1 (fun σ2 c2 g3 => ?_)
      · rw [pk_div (by omega) hu (by omega), pk_rem (Nat.lt_of_le_of_lt (Nat.div_le_self _ _) (by omega)) (by omega) (by omega), nI_add]
      · exact nxt σ2 (by unfold rb1; rw [if_pos (by omega)]; exact c2) (fun q q1 q2 => by rw [g3 q q1 q2, f1 q q1 q2])
  have hrd : rdg v ≤ 4 := by unfold rdg; repeat' split
                             all_goals omega
  have c32 : ∀ x : Int32, x = nI (rdg v) → AT 32 0 0 σ z [(0, .ref 0), (1, .int (nI v))] [.int x] := by
    intro x hx
    subst hx
    refine step [(53, [0, 1, 2, 3])] 5 ?_
    refine t_kput hX (b := 2) rfl (by omega) hk (by omega) (fun σ2 c2 g2 => ?_)
    refine t_kput hX (b := rdg v) rfl (by omega) c2 (by simp; omega) (fun σ3 c3 g3 => ?_)
    have l0 : (k ++ [2] ++ [rdg v]).length = k.length + 2 := by simp
    have l1 := rb1_len v 1000 (k ++ [2] ++ [rdg v])
    have l2 := rb1_len v 100 (rb1 v 1000 (k ++ [2] ++ [rdg v]))
    have l3 := rb1_len v 10 (rb1 v 100 (rb1 v 1000 (k ++ [2] ++ [rdg v])))
    refine stage 1000 _ σ3 (by omega) (by omega) c3 (by omega) (fun q q1 q2 => by rw [g3 q q1 q2, g2 q q1 q2]) (fun x4 σ4 e4 c4 f4 => ?_)
    subst e4
    refine stage 100 _ σ4 (by omega) (by omega) c4 (by omega) f4 (fun x5 σ5 e5 c5 f5 => ?_)
    subst e5
    refine stage 10 _ σ5 (by omega) (by omega) c5 (by omega) f5 (fun x6 σ6 e6 c6 f6 => ?_)
    subst e6
    refine stage 1 _ σ6 (by omega) (by omega) c6 (by omega) f6 (fun x7 σ7 e7 c7 f7 => ?_)
    subst e7
    refine step [] 5 ?_
    refine ⟨fun _ => ?_, fun g => absurd (show nI (1 / 10) ≤ 0 by decide) g⟩
    refine t_knote hX (d := rdg v) (w := true) rfl rfl (cN_congr (f7 11 (by decide) (by decide)) (f7 12 (by decide) (by decide)) (f7 13 (by decide) (by decide)) (f7 14 (by decide) (by decide)) hn) hnl (fun σ8 c8 g8 => ?_)
    exact hK σ8 (cK_congr (g8 9 (by decide) (by decide) (by decide) (by decide)) (g8 10 (by decide) (by decide) (by decide) (by decide)) c7) c8 (fun q q1 q2 q3 q4 q5 q6 => by rw [g8 q q3 q4 q5 q6, f7 q q1 q2])
  refine step [(32, [0, 1])] 5 ?_
  refine ⟨fun g1 => ⟨fun g2 => ⟨fun g3 => ?_, fun g3 => ?_⟩, fun g2 => ?_⟩, fun g1 => ?_⟩
  · rw [nI_ltI (by omega) (by omega)] at g1 g2 g3
    exact c32 _ (by unfold rdg; rw [if_neg (by omega), if_neg (by omega), if_neg (by omega)])
  · rw [nI_ltI (by omega) (by omega)] at g1 g2 g3
    exact c32 _ (by unfold rdg; rw [if_neg (by omega), if_neg (by omega), if_pos (by omega)])
  · rw [nI_ltI (by omega) (by omega)] at g1 g2
    exact c32 _ (by unfold rdg; rw [if_neg (by omega), if_pos (by omega)])
  · rw [nI_ltI (by omega) (by omega)] at g1
    exact c32 _ (by unfold rdg; rw [if_pos (by omega)])
end Pt
