/-! Keys compared -/
def lx : List Nat → List Nat → Int
  | [], [] => 0
  | [], _ :: _ => -1
  | _ :: _, [] => 1
  | a :: x, b :: y => if a = b then lx x y else if a < b then -1 else 1
def lI (x : Int) : Int32 := if x < 0 then -1 else if x = 0 then nI 0 else nI 1
def kb (k : List Nat) : Prop := k.length ≤ 240 ∧ ∀ b ∈ k, b < 128
theorem kb_at {k : List Nat} (h : kb k) (j : Nat) : k.getD j 0 < 128 := by
  rw [List.getD_eq_getElem?_getD]
  cases hj : k[j]? with
  | none => simp
  | some b => simpa using h.2 b (List.mem_of_getElem? hj)
theorem ap_lt {f : Nat → Nat} (hf : ∀ j, f j < 128) : ∀ (n a : Nat) (k : List Nat), (∀ b ∈ k, b < 128) → ∀ b ∈ ap f k a n, b < 128 := by
  intro n
  induction n with
  | zero => intro a k h; exact h
  | succ n ih =>
    intro a k h
    refine ih (a + 1) (k ++ [f a]) (fun b hb => ?_)
    rcases List.mem_append.mp hb with g | g
    · exact h b g
    · rw [List.mem_singleton.mp g]; exact hf a
theorem app_lt {k : List Nat} {x : Nat} (h : ∀ b ∈ k, b < 128) (hx : x < 128) : ∀ b ∈ k ++ [x], b < 128 := by
  intro b hb
  rcases List.mem_append.mp hb with g | g
  · exact h b g
  · rw [List.mem_singleton.mp g]; exact hx
theorem rb1_lt {v u : Nat} {k : List Nat} (h : ∀ b ∈ k, b < 128) : ∀ b ∈ rb1 v u k, b < 128 := by
  unfold rb1
  split
  · exact app_lt h (by omega)
  · exact h
theorem wk_lt {rom : Bool} {f : Nat → Nat} {a e : Nat} {k : List Nat} (hf : ∀ j, f j < 128) (he : e ≤ 80) (h : ∀ b ∈ k, b < 128) : ∀ b ∈ wk rom f a e k, b < 128 := by
  unfold wk
  split
  · exact ap_lt hf _ _ _ (app_lt (app_lt h (by omega)) (by omega))
  · split
    · have h1 : rdg (rmn f a e) < 128 := by unfold rdg; repeat' split
                                            all_goals omega
      exact rb1_lt (rb1_lt (rb1_lt (rb1_lt (app_lt (app_lt h (by omega)) h1))))
    · exact app_lt (ap_lt hf _ _ _ (app_lt h (by omega))) (by omega)
theorem kf_lt {rom : Bool} {f : Nat → Nat} {es : List Nat} (hf : ∀ j, f j < 128) (he : ∀ w, w ≤ es.length → sta es w ≤ 80) : ∀ (n w : Nat) (a : List Nat × List (Nat × Bool × Nat)), w + n ≤ es.length → (∀ b ∈ a.1, b < 128) → ∀ b ∈ (kf rom f es w n a).1, b < 128 := by
  intro n
  induction n with
  | zero => intro w a _ h; exact h
  | succ n ih =>
    intro w a hw h
    exact ih (w + 1) _ (by omega) (wk_lt hf (he (w + 1) (by omega)) h)
theorem mKey_lt {l : List Nat} {left lang : Nat} {rom : Bool} {sp : Nat → Bool} (hl : l.length ≤ 80) (hc : ∀ x ∈ l, x < 256) : ∀ b ∈ (mKey l left lang rom sp).1, b < 128 := by
  have hw : wOK (sSplit sp (l.drop left)) := wOK_split (by simp; omega) (fun x hx => hc x (List.mem_of_mem_drop hx))
  unfold mKey
  generalize sSplit sp (l.drop left) = S at hw ⊢
  refine kf_lt (fun j => ?_) (fun w h => Nat.le_trans (hw.2.2.2.1 w h) hw.1) _ _ _ ?_ (fun b hb => by simp at hb)
  · rcases Nat.lt_or_ge j S.1.length with g | g
    · exact (hw.2.2.2.2.1 j g).2
    · simp [List.getD, List.getElem?_eq_none g]
  · unfold mFirst
    split
    · rename_i h
      simp at h
      omega
    · omega
theorem lx_drop {k k' : List Nat} {i : Nat} (h1 : i < k.length) (h2 : i < k'.length) : lx (k.drop i) (k'.drop i) = if k.getD i 0 = k'.getD i 0 then lx (k.drop (i + 1)) (k'.drop (i + 1)) else if k.getD i 0 < k'.getD i 0 then -1 else 1 := by
  rw [List.drop_eq_getElem_cons h1, List.drop_eq_getElem_cons h2, List.getD_eq_getElem?_getD, List.getD_eq_getElem?_getD, List.getElem?_eq_getElem h1, List.getElem?_eq_getElem h2]
  rfl
theorem lx_end {k k' : List Nat} {i : Nat} (h1 : i ≤ k.length) (h2 : i ≤ k'.length) (h : i = k.length ∨ i = k'.length) : lx (k.drop i) (k'.drop i) = if k.length = k'.length then 0 else if k.length < k'.length then -1 else 1 := by
  cases hx : k.drop i with
  | nil =>
    have hk : k.length ≤ i := by simpa using hx
    cases hy : k'.drop i with
    | nil =>
      have hk' : k'.length ≤ i := by simpa using hy
      rw [if_pos (by omega)]
      rfl
    | cons b y =>
      have hl : (k'.drop i).length = y.length + 1 := by rw [hy]; rfl
      simp only [List.length_drop] at hl
      rw [if_neg (by omega), if_pos (by omega)]
      rfl
  | cons a x =>
    have hl : (k.drop i).length = x.length + 1 := by rw [hx]; rfl
    simp only [List.length_drop] at hl
    cases hy : k'.drop i with
    | nil =>
      have hk' : k'.length ≤ i := by simpa using hy
      rw [if_neg (by omega), if_neg (by omega)]
      rfl
    | cons b y =>
      have hl2 : (k'.drop i).length = y.length + 1 := by rw [hy]; rfl
      simp only [List.length_drop] at hl2
      omega
theorem a_ob_of {L : List aC} {i ci : Nat} {fs : List Value} {f : List Value → Prop} (h : L[i]? = some (.inl (ci, fs))) (g : f fs) : a_ob L i ci f := by
  unfold a_ob
  rw [h]
  simp only [a_if, beq_self_eq_true]
  exact g
theorem a_ar_of {L : List aC} {i t n : Nat} {f : Nat → Nat → Prop} (h : L[i]? = some (.inr (t, n))) (g : f t n) : a_ar L i f := by
  unfold a_ar
  rw [h]
  exact g
/-- the key k stands in the row p -/
def isK (L : List aC) (σ : aS) (p : Nat) (k : List Nat) : Prop := ∃ p' n : Nat, L[p]? = some (.inl (4, [.ref p', .int 0])) ∧ L[p']? = some (.inr (0, n)) ∧ k.length ≤ n ∧ kb k ∧ σ p 1 = nI k.length ∧ ∀ j, j < k.length → σ p' j = nI (k.getD j 0)
section Od
variable {X : aX} {ad : Nat → Nat} {L : List aC} {ns : List Nat} {σ : aS} {z : aZ} {K : aS → aZ → Option Value → Prop}
theorem t_order (hX : a_okX X) {p q : Nat} {k k' : List Nat} (hp : isK L σ p k) (hq : isK L σ q k') (hK : K σ z (some (.int (lI (lx k k'))))) : a_Meets X ad L mX1_order σ z [.ref p, .ref q] K := by
  obtain ⟨p', n, hp1, hp2, hp3, hp4, hp5, hp6⟩ := hp
  obtain ⟨q', n', hq1, hq2, hq3, hq4, hq5, hq6⟩ := hq
  have hl := hp4.1
  have hl' := hq4.1
  refine a_Meets.of hX oX1_order (al0 := [(0, .ref p), (1, .ref q)]) rfl rfl (fun AT step => ?_)
  have c61 : ∀ i : Nat, i ≤ k.length → i ≤ k'.length → (i = k.length ∨ i = k'.length) → lx (k.drop i) (k'.drop i) = lx k k' → AT 61 0 0 σ z [(0, .ref p), (1, .ref q)] [] := by
    intro i h1 h2 h3 h4
    rw [lx_end h1 h2 h3] at h4
    rw [← h4] at hK
    refine step [] 5 ?_
    refine a_ob_of hp1 ?_
    refine a_ob_of hq1 ?_
    refine ⟨fun g => ?_, fun g => ?_⟩
    · rw [hp5, hq5] at g
      have g : ¬ k.length = k'.length := fun e => g (by rw [e])
      rw [if_neg g] at hK
      refine a_ob_of hp1 ?_
      refine a_ob_of hq1 ?_
      refine ⟨fun g2 => ?_, fun g2 => ?_⟩
      · rw [hp5, hq5, nI_leI (by omega) (by omega)] at g2
        rw [if_neg (by omega)] at hK
        exact hK
      · rw [hp5, hq5, nI_leI (by omega) (by omega)] at g2
        rw [if_pos (by omega)] at hK
        exact hK
    · rw [hp5, hq5] at g
      have g := (nI_eq (by omega) (by omega)).mp g
      rw [if_pos g] at hK
      exact hK
  have loop : ∀ (n i : Nat) (x : Int32), x = nI i → i + n = min k.length k'.length → lx (k.drop i) (k'.drop i) = lx k k' → AT 14 0 0 σ z [(0, .ref p), (1, .ref q), (2, .int (nI (min k.length k'.length))), (3, .int x)] [] := by
    intro n
    induction n with
    | zero =>
      intro i x hx hi hlx
      subst hx
      refine step [(14, [0, 1, 2, 3]), (61, [0, 1])] 5 ?_
      refine ⟨fun g => ?_, fun g => ?_⟩
      · exact c61 i (by omega) (by omega) (by omega) hlx
      · rw [nI_leI (by omega) (by omega)] at g
        omega
    | succ n ih =>
      intro i x hx hi hlx
      subst hx
      rw [lx_drop (by omega) (by omega)] at hlx
      have b1 := kb_at hp4 i
      have b2 := kb_at hq4 i
      refine step [(14, [0, 1, 2, 3]), (61, [0, 1])] 5 ?_
      refine ⟨fun g => ?_, fun g => ?_⟩
      · rw [nI_leI (by omega) (by omega)] at g
        omega
      · refine a_ob_of hp1 ?_
        refine a_ar_of hp2 ?_
        refine ⟨i, ⟨by omega, by omega, rfl⟩, ?_⟩
        refine a_ob_of hq1 ?_
        refine a_ar_of hq2 ?_
        refine ⟨i, ⟨by omega, by omega, rfl⟩, ?_⟩
        have e1 := hp6 i (by omega)
        have e2 := hq6 i (by omega)
        refine ⟨fun g2 => ?_, fun g2 => ?_⟩
        · rw [e1, e2] at g2
          have g2 := (nI_eq (by omega) (by omega)).mp g2
          rw [if_pos g2] at hlx
          exact ih (i + 1) _ (nI_add i 1) (by omega) hlx
        · rw [e1, e2] at g2
          have g2 : ¬ k.getD i 0 = k'.getD i 0 := fun e => g2 (by rw [e])
          rw [if_neg g2] at hlx
          rw [← hlx] at hK
          refine a_ob_of hp1 ?_
          refine a_ar_of hp2 ?_
          refine ⟨i, ⟨by omega, by omega, rfl⟩, ?_⟩
          refine a_ob_of hq1 ?_
          refine a_ar_of hq2 ?_
          refine ⟨i, ⟨by omega, by omega, rfl⟩, ?_⟩
          refine ⟨fun g3 => ?_, fun g3 => ?_⟩
          · rw [e1, e2, nI_leI (by omega) (by omega)] at g3
            rw [if_neg (by omega)] at hK
            exact hK
          · rw [e1, e2, nI_leI (by omega) (by omega)] at g3
            rw [if_pos (by omega)] at hK
            exact hK
  refine step [(14, [0, 1, 2, 3])] 5 ?_
  refine a_ob_of hp1 ?_
  refine a_ob_of hq1 ?_
  have em : (if σ q 1 < σ p 1 then σ q 1 else σ p 1) = nI (min k.length k'.length) := by
    rw [hp5, hq5]
    split
    · rename_i g
      rw [nI_ltI (by omega) (by omega)] at g
      congr 1
      omega
    · rename_i g
      rw [nI_ltI (by omega) (by omega)] at g
      congr 1
      omega
  show AT 14 0 0 σ z [(0, .ref p), (1, .ref q), (2, .int (if σ q 1 < σ p 1 then σ q 1 else σ p 1)), (3, .int (nI 0))] []
  rw [em]
  exact loop _ 0 _ rfl (Nat.zero_add _) rfl
end Od
