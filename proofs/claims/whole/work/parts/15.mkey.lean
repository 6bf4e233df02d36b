/-! The reference: Roman numerals, key() -/
section MK
variable {X : aX} {ad : Nat → Nat} {ns : List Nat} {σ : aS} {z : aZ} {K : aS → aZ → Option Value → Prop} {S : sS}
theorem t_msign (hX : a_okX X) (hr : rF σ S) (hw : wOK S) {j e : Nat} (hj : j < 1000) (he : e ≤ S.1.length) (hK : K σ z (some (.int (if j < e then nI (S.1.getD j 0) else nI 0)))) : a_Meets X ad (a_LL ns) mX8_signAt σ z [.ref 15, .int (nI j), .int (nI e)] K := by
  have hl := hw.1
  refine a_Meets.of hX oX8_signAt (al0 := [(0, .ref 15), (1, .int (nI j)), (2, .int (nI e))]) rfl rfl (fun AT step => ?_)
  refine step [] 5 ?_
  refine ⟨fun g => ?_, fun g => ?_⟩
  · rw [nI_leI (by omega) (by omega)] at g
    rw [if_neg (by omega)] at hK
    exact hK
  · rw [nI_leI (by omega) (by omega)] at g
    rw [if_pos (by omega)] at hK
    refine ⟨j, ⟨by omega, by omega, rfl⟩, ?_⟩
    show K _ _ (some (.int (σ 18 j)))
    rw [hr.2.1 j (by omega)]
    exact hK
/-- a sign is a letter that isn't 0, just where the letter stands there -/
theorem sg_nx {S : sS} (hw : wOK S) {j e c : Nat} (he : e ≤ S.1.length) (hc : 0 < c) (hc2 : c < 256) : ((if j < e then nI (S.1.getD j 0) else nI 0) = nI c) ↔ nx (fun j => S.1.getD j 0) e j c = true := by
  simp only [nx, Bool.and_eq_true, decide_eq_true_eq]
  split
  · rename_i g
    have hb := hw.2.2.2.2.1 j (by omega)
    rw [nI_eq (by omega) (by omega)]
    exact ⟨fun q => ⟨g, q⟩, fun q => q.2⟩
  · rename_i g
    rw [nI_eq (by omega) (by omega)]
    exact ⟨fun q => by omega, fun q => absurd q.1 g⟩
theorem nx_0 {S : sS} (hw : wOK S) {j e : Nat} (he : e ≤ S.1.length) : nx (fun j => S.1.getD j 0) e j 0 = false := by
  simp only [nx, Bool.and_eq_false_iff, decide_eq_false_iff_not]
  rcases Nat.lt_or_ge j e with g | g
  · have hb := hw.2.2.2.2.1 j (by omega)
    exact Or.inr (by omega)
  · exact Or.inl (by omega)
theorem on3_succ {f : Nat → Nat} {e c : Nat} (n i : Nat) : on3 f e c (n + 1) i = if nx f e i c then on3 f e c n (i + 1) + 1 else 0 := rfl
theorem t_mcount (hX : a_okX X) (hr : rF σ S) (hw : wOK S) {i e o : Nat} (hi : i ≤ e) (he : e ≤ S.1.length) (ho : 0 < o) (ho2 : o < 256) (hK : K σ z (some (.int (nI (on3 (fun j => S.1.getD j 0) e o 3 i))))) : a_Meets X ad (a_LL ns) mX8_count σ z [.ref 15, .int (nI i), .int (nI e), .int (nI o)] K := by
  have hl := hw.1
  refine a_Meets.of hX oX8_count (al0 := [(0, .ref 15), (1, .int (nI i)), (2, .int (nI e)), (3, .int (nI o))]) rfl rfl (fun AT step => ?_)
  have loop : ∀ (n k : Nat) (x : Int32), k + n = 3 → x = nI k → k + on3 (fun j => S.1.getD j 0) e o n (i + k) = on3 (fun j => S.1.getD j 0) e o 3 i → AT 3 0 0 σ z [(0, .ref 15), (1, .int (nI i)), (2, .int (nI e)), (3, .int (nI o)), (4, .int x)] [] := by
    intro n
    induction n with
    | zero =>
      intro k x hk hx hon
      subst hx
      refine step [(3, [0, 1, 2, 3, 4])] 5 ?_
      refine ⟨fun g => ?_, fun g => ?_⟩
      · simp only [on3, Nat.add_zero] at hon
        show K _ _ (some (.int (nI k)))
        rw [hon]
        exact hK
      · rw [nI_leI (by omega) (by omega)] at g
        omega
    | succ n ih =>
      intro k x hk hx hon
      subst hx
      refine step [(3, [0, 1, 2, 3, 4])] 5 ?_
      refine ⟨fun g => ?_, fun g => ?_⟩
      · rw [nI_leI (by omega) (by omega)] at g
        omega
      · show a_Meets _ _ _ _ _ _ [.ref 15, .int (nI i + nI k), .int (nI e)] _
        rw [nI_add]
        refine t_msign hX hr hw (by omega) he ?_
        rw [on3_succ n (i + k)] at hon
        refine ⟨fun g2 => ?_, fun g2 => ?_⟩
        · rw [sg_nx hw he ho ho2] at g2
          rw [if_neg g2, Nat.add_zero] at hon
          show K _ _ (some (.int (nI k)))
          rw [hon]
          exact hK
        · rw [sg_nx hw he ho ho2] at g2
          rw [if_pos g2] at hon
          exact ih (k + 1) _ (by omega) (nI_add k 1) (by rw [show i + (k + 1) = i + k + 1 by omega]; omega)
  refine step [(3, [0, 1, 2, 3, 4])] 5 ?_
  exact loop 3 0 _ rfl rfl (by rw [Nat.zero_add]; rfl)
theorem mF_found {σ : aS} {v : Int32} : mF σ (a_up σ 15 22 v) := ⟨fun q h1 _ => a_up_ne h1, fun i _ _ h3 => by simp [a_up, h3]⟩
theorem t_mform (hX : a_okX X) (hr : rF σ S) (hw : wOK S) {i e o v t : Nat} (hi : i ≤ e) (he : e ≤ S.1.length) (ho : 0 < o) (ho2 : o < 256) (hv : v < 256) (ht : t < 256)
    (hK : K (a_up σ 15 22 (nI (rp (fun j => S.1.getD j 0) e o v t i).1)) z (some (.int (nI ((rp (fun j => S.1.getD j 0) e o v t i).2 - i))))) : a_Meets X ad (a_LL ns) mX8_form σ z [.ref 15, .int (nI i), .int (nI e), .int (nI o), .int (nI v), .int (nI t)] K := by
  have hl := hw.1
  refine a_Meets.of hX oX8_form (al0 := [(0, .ref 15), (1, .int (nI i)), (2, .int (nI e)), (3, .int (nI o)), (4, .int (nI v)), (5, .int (nI t))]) rfl rfl (fun AT step => ?_)
  -- the two signs
  obtain ⟨sa, hsa⟩ : ∃ y : Int32, y = if i < e then nI (S.1.getD i 0) else nI 0 := ⟨_, rfl⟩
  obtain ⟨sb, hsb⟩ : ∃ y : Int32, y = if i + 1 < e then nI (S.1.getD (i + 1) 0) else nI 0 := ⟨_, rfl⟩
  have ha : ∀ c, 0 < c → c < 256 → (sa = nI c ↔ nx (fun j => S.1.getD j 0) e i c = true) := fun c h1 h2 => by rw [hsa]; exact sg_nx hw he h1 h2
  have hb : ∀ c, 0 < c → c < 256 → (sb = nI c ↔ nx (fun j => S.1.getD j 0) e (i + 1) c = true) := fun c h1 h2 => by rw [hsb]; exact sg_nx hw he h1 h2
  have n0 := fun j => nx_0 hw (j := j) he
  generalize hf : (fun j => S.1.getD j 0) = f at *
  have c86 : ∀ (d : Nat) (x : Int32), x = nI d → (d = if nx f e i v then 1 else 0) → (nx f e i o && nx f e (i + 1) t) = false → (nx f e i o && nx f e (i + 1) v) = false → AT 86 0 0 σ z [(0, .ref 15), (1, .int (nI i)), (2, .int (nI e)), (3, .int (nI o))] [.int x] := by
    intro d x hx hd q1 q2
    subst hx
    have hde : i + d ≤ e := by
      rw [hd]
      split
      · rename_i g
        simp [nx] at g
        omega
      · omega
    have hd1 : d ≤ 1 := by rw [hd]; split <;> omega
    refine step [] 5 ?_
    show a_Meets _ _ _ _ _ _ [.ref 15, .int (nI i + nI d), .int (nI e), .int (nI o)] _
    rw [nI_add]
    refine t_mcount hX hr hw hde he ho ho2 ?_
    rw [hf]
    have erp : rp f e o v t i = (5 * d + on3 f e o 3 (i + d), i + d + on3 f e o 3 (i + d)) := by
      unfold rp
      rw [q1, q2]
      simp only [Bool.false_eq_true, if_false]
      rw [hd]
      split
      · rfl
      · simp
    rw [erp] at hK
    dsimp only at hK
    rw [show i + d + on3 f e o 3 (i + d) - i = d + on3 f e o 3 (i + d) by omega] at hK
    show K (a_up σ 15 22 (nI 5 * nI d + nI _)) _ (some (.int (nI d + nI _)))
    rw [pk_mul, nI_add, nI_add]
    exact hK
  have c69 : (nx f e i o && nx f e (i + 1) t) = false → (nx f e i o && nx f e (i + 1) v) = false → AT 69 0 0 σ z [(0, .ref 15), (1, .int (nI i)), (2, .int (nI e)), (3, .int (nI o)), (4, .int (nI v)), (6, .int sa)] [] := by
    intro q1 q2
    refine step [(86, [0, 1, 2, 3])] 5 ?_
    by_cases hv0 : v = 0
    · subst hv0
      refine ⟨fun g => ?_, fun g => ⟨fun g2 => ?_, fun g2 => absurd rfl g2⟩⟩
      · exact c86 0 _ rfl (by rw [n0]; rfl) q1 q2
      · exact c86 0 _ rfl (by rw [n0]; rfl) q1 q2
    · refine ⟨fun g => ?_, fun g => ⟨fun g2 => ?_, fun g2 => ?_⟩⟩
      · have g := mt (ha v (by omega) hv).mpr g
        exact c86 0 _ rfl (by rw [if_neg g]) q1 q2
      · exact absurd ((nI_eq (b := 0) (by omega) (by omega)).mp g2) hv0
      · have g := (ha v (by omega) hv).mp g
        exact c86 1 _ rfl (by rw [if_pos g]) q1 q2
  have c44 : (nx f e i o && nx f e (i + 1) t) = false → AT 44 0 0 σ z [(0, .ref 15), (1, .int (nI i)), (2, .int (nI e)), (3, .int (nI o)), (4, .int (nI v)), (6, .int sa), (7, .int sb)] [] := by
    intro q1
    refine step [(69, [0, 1, 2, 3, 4, 6])] 5 ?_
    by_cases hv0 : v = 0
    · subst hv0
      have q2 : (nx f e i o && nx f e (i + 1) 0) = false := by rw [n0, Bool.and_false]
      refine ⟨fun g => c69 q1 q2, fun g => ⟨fun g2 => c69 q1 q2, fun g2 => ⟨fun g3 => c69 q1 q2, fun g3 => absurd rfl g3⟩⟩⟩
    · refine ⟨fun g => ?_, fun g => ⟨fun g2 => ?_, fun g2 => ⟨fun g3 => ?_, fun g3 => ?_⟩⟩⟩
      · have g := mt (ha o ho ho2).mpr g
        exact c69 q1 (by simp [g])
      · have g2 := mt (hb v (by omega) hv).mpr g2
        exact c69 q1 (by simp [g2])
      · exact absurd ((nI_eq (b := 0) (by omega) (by omega)).mp g3) hv0
      · have g := (ha o ho ho2).mp g
        have g2 := (hb v (by omega) hv).mp g2
        have erp : rp f e o v t i = (4, i + 2) := by
          unfold rp
          rw [q1, g, g2]
          rfl
        rw [erp] at hK
        dsimp only at hK
        rw [show i + 2 - i = 2 by omega] at hK
        exact hK
  refine step [(44, [0, 1, 2, 3, 4, 6, 7])] 5 ?_
  refine t_msign hX hr hw (by omega) he ?_
  show a_Meets _ _ _ _ _ _ [.ref 15, .int (nI i + nI 1), .int (nI e)] _
  rw [nI_add]
  refine t_msign hX hr hw (by omega) he ?_
  rw [← hsa, ← hsb]
  by_cases ht0 : t = 0
  · subst ht0
    have q1 : (nx f e i o && nx f e (i + 1) 0) = false := by rw [n0, Bool.and_false]
    refine ⟨fun g => c44 q1, fun g => ⟨fun g2 => c44 q1, fun g2 => ⟨fun g3 => c44 q1, fun g3 => absurd rfl g3⟩⟩⟩
  · refine ⟨fun g => ?_, fun g => ⟨fun g2 => ?_, fun g2 => ⟨fun g3 => ?_, fun g3 => ?_⟩⟩⟩
    · have g := mt (ha o ho ho2).mpr g
      exact c44 (by simp [g])
    · have g2 := mt (hb t (by omega) ht).mpr g2
      exact c44 (by simp [g2])
    · exact absurd ((nI_eq (b := 0) (by omega) (by omega)).mp g3) ht0
    · have g := (ha o ho ho2).mp g
      have g2 := (hb t (by omega) ht).mp g2
      have erp : rp f e o v t i = (9, i + 2) := by
        unfold rp
        rw [g, g2]
        rfl
      rw [erp] at hK
      dsimp only at hK
      rw [show i + 2 - i = 2 by omega] at hK
      exact hK
theorem t_romanOf (hX : a_okX X) (hr : rF σ S) (hw : wOK S) {k : List Nat} {nm : List (Nat × Bool × Nat)} (hk : dK σ k) (hn : dN σ nm) {w : Nat} (h : w < S.2.1.length) (hK : ∀ σ', dK σ' k → dN σ' nm → mF σ σ' → K σ' z (some (.int (nI (rmn (fun j => S.1.getD j 0) (sta S.2.1 w) (sta S.2.1 (w + 1))))))) : a_Meets X ad (a_LL ns) mX8_romanOf σ z [.ref 15, .int (nI w)] K := by
  have he := hw.2.2.2.1 (w + 1) (by omega)
  have hae := hw.2.2.1 w h
  have hl := hw.1
  have hwl := hw.2.1
  have b1 := hr.2.2 w (by omega)
  have b2 := hr.2.2 (w + 1) (by omega)
  refine a_Meets.of hX oX8_romanOf (al0 := [(0, .ref 15), (1, .int (nI w))]) rfl rfl (fun AT step => ?_)
  generalize hee : sta S.2.1 (w + 1) = e at *
  generalize haa : sta S.2.1 w = a at *
  have p1 := rp_in (f := fun j => S.1.getD j 0) (o := 109) (v := 0) (t := 0) (Nat.le_of_lt hae)
  have p2 := rp_in (f := fun j => S.1.getD j 0) (o := 99) (v := 100) (t := 109) p1.2.1
  have p3 := rp_in (f := fun j => S.1.getD j 0) (o := 120) (v := 108) (t := 99) p2.2.1
  have p4 := rp_in (f := fun j => S.1.getD j 0) (o := 105) (v := 118) (t := 120) p3.2.1
  unfold rmn at hK
  generalize hr1 : rp (fun j => S.1.getD j 0) e 109 0 0 a = r1 at *
  generalize hr2 : rp (fun j => S.1.getD j 0) e 99 100 109 r1.2 = r2 at *
  generalize hr3 : rp (fun j => S.1.getD j 0) e 120 108 99 r2.2 = r3 at *
  generalize hr4 : rp (fun j => S.1.getD j 0) e 105 118 120 r3.2 = r4 at *
  have up : ∀ (σ1 : aS) (v : Int32), dK σ1 k → dN σ1 nm → mF σ σ1 → dK (a_up σ1 15 22 v) k ∧ dN (a_up σ1 15 22 v) nm ∧ mF σ (a_up σ1 15 22 v) := fun σ1 v q1 q2 q3 =>
    ⟨⟨by simp [a_up, q1.1], fun j hj => by simp [a_up]; exact q1.2 j hj⟩, ⟨by simp [a_up, q2.1], fun j hj => by simp [a_up]; exact q2.2 j hj⟩, q3.tr mF_found⟩
  have c120 : ∀ (σ1 : aS) (x v : Int32), dK σ1 k → dN σ1 nm → mF σ σ1 → x = nI r4.2 → v = nI (1000 * r1.1 + 100 * r2.1 + 10 * r3.1 + r4.1) → AT 120 0 0 σ1 z [(2, .int x), (3, .int (nI e)), (4, .int v)] [] := by
    intro σ1 x v q1 q2 q3 hx hv
    subst hx
    subst hv
    have hK := hK σ1 q1 q2 q3
    refine step [] 5 ?_
    refine ⟨fun g => ?_, fun g => ?_⟩
    · rw [if_neg (fun q => g (by rw [q]))] at hK
      exact hK
    · rw [if_pos ((nI_eq (by omega) (by omega)).mp g)] at hK
      exact hK
  have c96 : ∀ (σ1 : aS) (x v : Int32), dK σ1 k → dN σ1 nm → mF σ σ1 → x = nI r3.2 → v = nI (1000 * r1.1 + 100 * r2.1 + 10 * r3.1) → AT 96 0 0 σ1 z [(0, .ref 15), (2, .int x), (3, .int (nI e)), (4, .int v)] [] := by
    intro σ1 x v q1 q2 q3 hx hv
    subst hx
    subst hv
    refine step [(120, [2, 3, 4])] 5 ?_
    refine t_mform hX (rF_of q3 hr) hw (o := 105) (v := 118) (t := 120) (by omega) he (by omega) (by omega) (by omega) (by omega) ?_
    rw [hr4]
    obtain ⟨u1, u2, u3⟩ := up σ1 (nI r4.1) q1 q2 q3
    refine c120 _ _ _ u1 u2 u3 (by rw [nI_add]; congr 1; omega) ?_
    simp only [a_up, if_true]
    rw [nI_add]
  have c69 : ∀ (σ1 : aS) (x v : Int32), dK σ1 k → dN σ1 nm → mF σ σ1 → x = nI r2.2 → v = nI (1000 * r1.1 + 100 * r2.1) → AT 69 0 0 σ1 z [(0, .ref 15), (2, .int x), (3, .int (nI e)), (4, .int v)] [] := by
    intro σ1 x v q1 q2 q3 hx hv
    subst hx
    subst hv
    refine step [(96, [0, 2, 3, 4])] 5 ?_
    refine t_mform hX (rF_of q3 hr) hw (o := 120) (v := 108) (t := 99) (by omega) he (by omega) (by omega) (by omega) (by omega) ?_
    rw [hr3]
    obtain ⟨u1, u2, u3⟩ := up σ1 (nI r3.1) q1 q2 q3
    refine c96 _ _ _ u1 u2 u3 (by rw [nI_add]; congr 1; omega) ?_
    simp only [a_up, if_true]
    rw [pk_mul, nI_add]
  have c42 : ∀ (σ1 : aS) (x v : Int32), dK σ1 k → dN σ1 nm → mF σ σ1 → x = nI r1.2 → v = nI (1000 * r1.1) → AT 42 0 0 σ1 z [(0, .ref 15), (2, .int x), (3, .int (nI e)), (4, .int v)] [] := by
    intro σ1 x v q1 q2 q3 hx hv
    subst hx
    subst hv
    refine step [(69, [0, 2, 3, 4])] 5 ?_
    refine t_mform hX (rF_of q3 hr) hw (o := 99) (v := 100) (t := 109) (by omega) he (by omega) (by omega) (by omega) (by omega) ?_
    rw [hr2]
    obtain ⟨u1, u2, u3⟩ := up σ1 (nI r2.1) q1 q2 q3
    refine c69 _ _ _ u1 u2 u3 (by rw [nI_add]; congr 1; omega) ?_
    simp only [a_up, if_true]
    rw [pk_mul, nI_add]
  have c19 : ∀ (x y : Int32), x = nI a → y = nI e → AT 19 0 0 σ z [(0, .ref 15), (2, .int x), (3, .int y)] [] := by
    intro x y hx hy
    subst hx
    subst hy
    refine step [(42, [0, 2, 3, 4])] 5 ?_
    refine t_mform hX hr hw (o := 109) (v := 0) (t := 0) (by omega) he (by omega) (by omega) (by omega) (by omega) ?_
    rw [hr1]
    obtain ⟨u1, u2, u3⟩ := up σ (nI r1.1) hk hn mF.rf
    refine c42 _ _ _ u1 u2 u3 (by rw [nI_add]; congr 1; omega) ?_
    simp only [a_up, if_true]
    rw [pk_mul]
  refine step [(19, [0, 2, 3])] 5 ?_
  refine ⟨w, ⟨by omega, by omega, rfl⟩, w + 1, ⟨by omega, by omega, nI_add w 1⟩, ?_⟩
  exact c19 _ _ b1 b2
theorem t_mRoman (hX : a_okX X) {k : List Nat} {nm : List (Nat × Bool × Nat)} (hk : dK σ k) (hn : dN σ nm) (hnl : nm.length < 80) {v : Nat} (hv : 0 < v) (hv2 : v < 100000) (hl : k.length + 6 ≤ 240)
    (hK : ∀ σ', dK σ' (rbs v (k ++ [2] ++ [rdg v])) → dN σ' (nm ++ [(rdg v, true, v)]) → mF σ σ' → K σ' z none) : a_Meets X ad (a_LL ns) mX8_putRoman σ z [.ref 15, .int (nI v)] K := by
  refine a_Meets.of hX oX8_putRoman (al0 := [(0, .ref 15), (1, .int (nI v))]) rfl rfl (fun AT step => ?_)
  have stage : ∀ (i u : Nat) (k1 : List Nat) (σ1 : aS), i < rdg v → 0 < u → u ≤ 1000 → dK σ1 k1 → dN σ1 nm → k1.length < 240 → mF σ σ1 → (∀ (x y : Int32) (σ2 : aS), x = nI (u / 10) → y = nI (i + 1) → dK σ2 (k1 ++ [48 + v / u % 10]) → dN σ2 nm → mF σ σ2 → AT 79 0 0 σ2 z [(0, .ref 15), (1, .int (nI v)), (2, .int (nI (rdg v))), (3, .int x), (4, .int y)] []) → AT 79 0 0 σ1 z [(0, .ref 15), (1, .int (nI v)), (2, .int (nI (rdg v))), (3, .int (nI u)), (4, .int (nI i))] [] := by
    intro i u k1 σ1 hi hu hu2 c1 n1 hl1 f1 cont
    have hrd : rdg v ≤ 4 := by unfold rdg; repeat' split
                               all_goals omega
    refine step [(79, [0, 1, 2, 3, 4])] 5 ?_
    refine ⟨fun g => ?_, fun g => ?_⟩
    · rw [nI_leI (by omega) (by omega)] at g
      omega
    · refine ⟨nI_ne0 hu (by omega), by decide, ?_⟩
      refine t_mput hX (b := 48 + v / u % 10) ?_ (by omega) c1 n1 (by omega) (fun σ2 c2 n2 g3 => ?_)
      · rw [pk_div (by omega) hu (by omega), pk_rem (Nat.lt_of_le_of_lt (Nat.div_le_self _ _) (by omega)) (by omega) (by omega), nI_add]
      · refine ⟨by decide, ?_⟩
        exact cont _ _ σ2 (pk_div (by omega) (by omega) (by omega)) (nI_add i 1) c2 n2 (f1.tr g3)
  have last : ∀ (x : Int32) (k1 : List Nat) (σ1 : aS), dK σ1 k1 → dN σ1 nm → mF σ σ1 → k1 = rbs v (k ++ [2] ++ [rdg v]) → AT 79 0 0 σ1 z [(0, .ref 15), (1, .int (nI v)), (2, .int (nI (rdg v))), (3, .int x), (4, .int (nI (rdg v)))] [] := by
    intro x k1 σ1 c1 n1 f1 hk1
    refine step [(79, [0, 1, 2, 3, 4])] 5 ?_
    have hrd : rdg v ≤ 4 := by unfold rdg; repeat' split
                               all_goals omega
    refine ⟨fun _ => ?_, fun g => ?_⟩
    · refine t_mnote hX (d := rdg v) (w := true) rfl rfl c1 n1 hnl (fun σ2 c2 n2 g2 => ?_)
      rw [hk1] at c2
      exact hK σ2 c2 n2 (f1.tr g2)
    · exact absurd (nI_le (Nat.le_refl _) (by omega)) g
  have c75 : ∀ (x : Int32) (σ1 : aS), dK σ1 (k ++ [2] ++ [rdg v]) → dN σ1 nm → mF σ σ1 → x = nI (if 1000 ≤ v then 1000 else if 100 ≤ v then 100 else if 10 ≤ v then 10 else 1) → AT 75 0 0 σ1 z [(0, .ref 15), (1, .int (nI v)), (2, .int (nI (rdg v)))] [.int x] := by
    intro x σ1 c1 n1 f1 hx
    subst hx
    refine step [(79, [0, 1, 2, 3, 4])] 5 ?_
    have l0 : (k ++ [2] ++ [rdg v]).length = k.length + 2 := by simp
    by_cases h1 : 1000 ≤ v
    · have erd : rdg v = 4 := by unfold rdg; rw [if_pos h1]
      rw [if_pos h1]
      refine stage 0 1000 _ σ1 (by omega) (by omega) (by omega) c1 n1 (by omega) f1 (fun x2 y2 σ2 ex2 ey2 c2 n2 f2 => ?_)
      subst ex2; subst ey2
      refine stage 1 100 _ σ2 (by omega) (by omega) (by omega) c2 n2 (by simp; omega) f2 (fun x3 y3 σ3 ex3 ey3 c3 n3 f3 => ?_)
      subst ex3; subst ey3
      refine stage 2 10 _ σ3 (by omega) (by omega) (by omega) c3 n3 (by simp; omega) f3 (fun x4 y4 σ4 ex4 ey4 c4 n4 f4 => ?_)
      subst ex4; subst ey4
      refine stage 3 1 _ σ4 (by omega) (by omega) (by omega) c4 n4 (by simp; omega) f4 (fun x5 y5 σ5 ex5 ey5 c5 n5 f5 => ?_)
      rw [ey5, show 3 + 1 = rdg v by omega]
      refine last x5 _ σ5 c5 n5 f5 ?_
      unfold rbs rb1
      rw [if_pos (by omega), if_pos (by omega), if_pos (by omega), if_pos (by omega)]
    · by_cases h2 : 100 ≤ v
      · have erd : rdg v = 3 := by unfold rdg; rw [if_neg h1, if_pos h2]
        rw [if_neg h1, if_pos h2]
        refine stage 0 100 _ σ1 (by omega) (by omega) (by omega) c1 n1 (by omega) f1 (fun x3 y3 σ3 ex3 ey3 c3 n3 f3 => ?_)
        subst ex3; subst ey3
        refine stage 1 10 _ σ3 (by omega) (by omega) (by omega) c3 n3 (by simp; omega) f3 (fun x4 y4 σ4 ex4 ey4 c4 n4 f4 => ?_)
        subst ex4; subst ey4
        refine stage 2 1 _ σ4 (by omega) (by omega) (by omega) c4 n4 (by simp; omega) f4 (fun x5 y5 σ5 ex5 ey5 c5 n5 f5 => ?_)
        rw [ey5, show 2 + 1 = rdg v by omega]
        refine last x5 _ σ5 c5 n5 f5 ?_
        unfold rbs rb1
        rw [if_pos (by omega), if_pos (by omega), if_pos (by omega), if_neg (by omega)]
      · by_cases h3 : 10 ≤ v
        · have erd : rdg v = 2 := by unfold rdg; rw [if_neg h1, if_neg h2, if_pos h3]
          rw [if_neg h1, if_neg h2, if_pos h3]
          refine stage 0 10 _ σ1 (by omega) (by omega) (by omega) c1 n1 (by omega) f1 (fun x4 y4 σ4 ex4 ey4 c4 n4 f4 => ?_)
          subst ex4; subst ey4
          refine stage 1 1 _ σ4 (by omega) (by omega) (by omega) c4 n4 (by simp; omega) f4 (fun x5 y5 σ5 ex5 ey5 c5 n5 f5 => ?_)
          rw [ey5, show 1 + 1 = rdg v by omega]
          refine last x5 _ σ5 c5 n5 f5 ?_
          unfold rbs rb1
          rw [if_pos (by omega), if_pos (by omega), if_neg (by omega), if_neg (by omega)]
        · have erd : rdg v = 1 := by unfold rdg; rw [if_neg h1, if_neg h2, if_neg h3]
          rw [if_neg h1, if_neg h2, if_neg h3]
          refine stage 0 1 _ σ1 (by omega) (by omega) (by omega) c1 n1 (by omega) f1 (fun x5 y5 σ5 ex5 ey5 c5 n5 f5 => ?_)
          rw [ey5, show 0 + 1 = rdg v by omega]
          refine last x5 _ σ5 c5 n5 f5 ?_
          unfold rbs rb1
          rw [if_pos (by omega), if_neg (by omega), if_neg (by omega), if_neg (by omega)]
  have c32 : ∀ x : Int32, x = nI (rdg v) → AT 32 0 0 σ z [(0, .ref 15), (1, .int (nI v))] [.int x] := by
    intro x hx
    subst hx
    have hrd : rdg v ≤ 4 := by unfold rdg; repeat' split
                               all_goals omega
    refine step [(75, [0, 1, 2])] 5 ?_
    refine t_mput hX (b := 2) rfl (by omega) hk hn (by omega) (fun σ2 c2 n2 g2 => ?_)
    refine t_mput hX (b := rdg v) rfl (by omega) c2 n2 (by simp; omega) (fun σ3 c3 n3 g3 => ?_)
    have ff := g2.tr g3
    refine ⟨fun g4 => ⟨fun g5 => ⟨fun g6 => ?_, fun g6 => ?_⟩, fun g5 => ?_⟩, fun g4 => ?_⟩
    · have g4 : ¬ rdg v = 4 := fun q => g4 (by rw [q])
      have g5 : ¬ rdg v = 3 := fun q => g5 (by rw [q])
      have g6 : ¬ rdg v = 2 := fun q => g6 (by rw [q])
      refine c75 _ σ3 c3 n3 ff ?_
      unfold rdg at g4 g5 g6
      repeat' split
      all_goals first | rfl | (exfalso; simp_all)
    · have g6 := (nI_eq (by omega) (by omega)).mp g6
      refine c75 _ σ3 c3 n3 ff ?_
      unfold rdg at g6
      repeat' split
      all_goals first | rfl | (exfalso; simp_all)
    · have g5 := (nI_eq (by omega) (by omega)).mp g5
      refine c75 _ σ3 c3 n3 ff ?_
      unfold rdg at g5
      repeat' split
      all_goals first | rfl | (exfalso; simp_all; try omega)
    · have g4 := (nI_eq (by omega) (by omega)).mp g4
      refine c75 _ σ3 c3 n3 ff ?_
      unfold rdg at g4
      repeat' split
      all_goals first | rfl | (exfalso; simp_all; try omega)
  refine step [(32, [0, 1])] 5 ?_
  refine ⟨fun g1 => ⟨fun g2 => ⟨fun g3 => ?_, fun g3 => ?_⟩, fun g2 => ?_⟩, fun g1 => ?_⟩
  · rw [nI_leI (by omega) (by omega)] at g1 g2 g3
    exact c32 _ (by unfold rdg; rw [if_neg (by omega), if_neg (by omega), if_neg (by omega)])
  · rw [nI_leI (by omega) (by omega)] at g1 g2 g3
    exact c32 _ (by unfold rdg; rw [if_neg (by omega), if_neg (by omega), if_pos (by omega)])
  · rw [nI_leI (by omega) (by omega)] at g1 g2
    exact c32 _ (by unfold rdg; rw [if_neg (by omega), if_pos (by omega)])
  · rw [nI_leI (by omega) (by omega)] at g1
    exact c32 _ (by unfold rdg; rw [if_pos (by omega)])
end MK
