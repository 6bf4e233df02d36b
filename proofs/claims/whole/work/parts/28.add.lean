/-! A key's copy, and add -/
section Ad
variable {X : aX} {ws : va_W} {K : va_W → Option Value → Prop}
theorem c_copy (hX : b_okX X) {q0 b n : Nat} {f : Nat → Int32} (he : ws[q0]? = some (b, .inl (X.2.2.1 0, 240, .inl f))) (hn : n ≤ 240) (hf : ∀ i, i < n → fits .byte (.int (f i)) = true)
    (hK : ∀ (d : Nat) (f' : Nat → Int32), (∀ i, i < n → f' i = f i) → K ((d, .inl (X.2.2.1 0, n, .inl f')) :: ws) (some (.ref d))) : b_Meets X mJ7_copyOf_9075b ws [.ref b, .int (nI n)] K := by
  refine b_Meets.of hX rJ7_copyOf_9075b (al0 := [(0, .ref b), (1, .int (nI n))]) rfl rfl (fun AT step => ?_)
  refine step [] 4 ?_
  refine ⟨240, Or.inl ⟨q0, 0, _, he, by decide⟩, fun g => ?_, fun g => ?_⟩
  · refine ⟨n, ⟨rfl, by omega⟩, ⟨⟨by decide, by show 0 + n ≤ 240; omega⟩, fun d => ?_⟩⟩
    refine ⟨240, Or.inl ⟨q0 + 1, 0, _, he, by decide⟩, ?_⟩
    have e1 : (if nI n < nI 240 then nI n else nI 240) = nI n := by
      by_cases h : n < 240
      · rw [if_pos (nI_lt h (by omega))]
      · rw [if_neg (nI_nlt (by omega) (by omega))]
        congr 1
        omega
    refine ⟨n, 0, 0, q0 + 1, 0, 240, n, f, _, ⟨e1, rfl, rfl, by omega, by omega, by omega, by omega⟩, he, rfl, (fun i hi => by rw [Nat.zero_add]; exact hf i hi), ?_⟩
    refine ⟨hK d _ (fun i hi => ?_), trivial⟩
    rw [pk_cpy_in (by omega) (by omega)]
    congr 1
    omega
  · have e : n = 240 := (nI_eq (by omega) (by omega)).mp g
    subst e
    refine ⟨q0, 240, f, he, hf, ⟨by decide, by decide⟩, fun d => ⟨0, 240, f, rfl, ?_⟩⟩
    exact ⟨hK d f (fun _ _ => rfl), trivial⟩
theorem c_kcopy (hX : b_okX X) {qk qb kr b n : Nat} {f : Nat → Int32} (hk : ws[qk]? = some (kr, .inr (4, [.ref b, .int (nI n)]))) (he : ws[qb]? = some (b, .inl (X.2.2.1 0, 240, .inl f))) (hn : n ≤ 240) (hf : ∀ i, i < n → fits .byte (.int (f i)) = true)
    (hK : ∀ (d k2 : Nat) (f' : Nat → Int32), (∀ i, i < n → f' i = f i) → K ((d, .inl (X.2.2.1 0, n, .inl f')) :: (k2, .inr (4, [.ref d, .int (nI n)])) :: ws) (some (.ref k2))) : b_Meets X mX1_copy ws [.ref kr] K := by
  refine b_Meets.of hX rX1_copy (al0 := [(0, .ref kr)]) rfl rfl (fun AT step => ?_)
  refine step [] 4 ?_
  refine ⟨⟨by decide, by decide⟩, fun k2 => ⟨qk + 1, _, _, hk, rfl, qk + 1, _, _, hk, rfl, ⟨by decide, by decide⟩, ?_⟩⟩
  refine c_copy hX (q0 := qb + 1) he hn hf (fun d f' hf' => ?_)
  refine ⟨qk + 2, _, _, hk, rfl, ?_⟩
  refine n_keyrow hX ?_
  exact ⟨hK d k2 f' hf', trivial⟩
theorem c_add (hX : b_okX X) {mi e0 : Nat} (hmi : b_om X mi) (h1 : b_gs X (b_st 1) (.ref e0)) (h2 : ∃ f, b_ot X (.object "java/lang/Object") e0 0 f) {o l1 : Nat} {as : List Nat} {Z : va_W} (hlen : as.length ≤ 60) (hZ : lz X e0 l1 as Z) (hel : ∀ a ∈ as, b_ent ws a)
    {qo qk qb kr b n : Nat} {f : Nat → Int32} {fs : List Value} (ho : ws[qo]? = some (o, .inr (10, fs))) (h6 : fs[6]? = some (.ref l1)) (h4 : fs[4]? = some (.ref kr)) (hk : ws[qk]? = some (kr, .inr (4, [.ref b, .int (nI n)]))) (he : ws[qb]? = some (b, .inl (X.2.2.1 0, 240, .inl f))) (hn : n ≤ 240) (hf : ∀ i, i < n → fits .byte (.int (f i)) = true) {rk : Int32}
    (hK0 : ¬ ((∃ j : Nat, j < 4 ∧ rk = nI j) ∧ as.length < 60) → K (Z ++ ws) (some (.int (nI 0))))
    (hK1 : ∀ j : Nat, j < 4 → rk = nI j → as.length < 60 → ∀ (d k2 en : Nat) (f' : Nat → Int32) (Z' : va_W), (∀ i, i < n → f' i = f i) → lz X e0 l1 (as ++ [en]) Z' → K (Z' ++ ((d, .inl (X.2.2.1 0, n, .inl f')) :: (k2, .inr (4, [.ref d, .int (nI n)])) :: (en, .inr (3, [.int (nI (as.length + 1)), .int rk, .ref k2])) :: ws)) (some (.int (nI (as.length + 1))))) :
    b_Meets X mX7_add (Z ++ ws) [.ref o, .int rk] K := by
  have ho2 : (Z ++ ws)[Z.length + qo]? = some (o, .inr (10, fs)) := by
    rw [List.getElem?_append_right (by omega), Nat.add_sub_cancel_left]
    exact ho
  have hsz : ∀ K' : va_W → Option Value → Prop, K' (Z ++ ws) (some (.int (nI as.length))) → b_Meets X mJx4a65c_size_8abf5 (Z ++ ws) [.ref l1] K' := by
    intro K' hK'
    obtain ⟨mo, e, Z1, hZ1, rfl⟩ := hZ
    exact j_size hX hK'
  have hrec : ∃ (q0 : Nat) (fs : List Value), (Z ++ ws)[q0]? = some (l1, .inr (2, fs)) := by
    obtain ⟨mo, e, Z1, hZ1, rfl⟩ := hZ
    exact ⟨0, _, rfl⟩
  refine b_Meets.of hX rX7_add (al0 := [(0, .ref o), (1, .int rk)]) rfl rfl (fun AT step => ?_)
  refine step [(21, [0]), (23, [0, 1])] 4 ?_
  have c21 : ¬ ((∃ j : Nat, j < 4 ∧ rk = nI j) ∧ as.length < 60) → AT 21 0 0 (Z ++ ws) [(0, .ref o)] [] := fun h => step [] 1 ⟨hK0 h, trivial⟩
  refine ⟨fun g => c21 ?_, fun g => ⟨fun g2 => c21 ?_, fun g2 => ⟨_, _, _, ho2, h6, hrec, ?_⟩⟩⟩
  · rintro ⟨⟨j, hj, rfl⟩, -⟩
    exact nI_pos (by omega) g
  · rintro ⟨⟨j, hj, rfl⟩, -⟩
    rw [nI_leI (by omega) (by omega)] at g2
    omega
  · refine hsz _ ?_
    refine ⟨fun g3 => ?_, fun g3 => c21 ?_⟩
    · obtain ⟨j, hj, rfl⟩ := nI_of g
      rw [nI_leI (by omega) (by omega)] at g2
      have g3 : as.length < 60 := (nI_ltI (by omega) (by omega)).mp g3
      refine step [] 1 ?_
      refine ⟨_, _, _, ho2, h6, hrec, ?_⟩
      refine hsz _ ?_
      refine ⟨_, _, _, ho2, h6, ⟨by decide, by decide⟩, fun en => ?_⟩
      have ho3 : ((en, Sum.inr (3, b_df 3)) :: (Z ++ ws) : va_W)[Z.length + qo + 1]? = some (o, .inr (10, fs)) := ho2
      refine ⟨_, _, _, ho3, h4, ⟨Z.length + qk + 1, [.ref b, .int (nI n)], ?_⟩, ⟨by decide, by decide⟩, ?_⟩
      · show (Z ++ ws)[Z.length + qk]? = _
        rw [List.getElem?_append_right (by omega), Nat.add_sub_cancel_left]
        exact hk
      · refine c_kcopy hX (qk := Z.length + qk + 1) (qb := Z.length + qb + 1) (b := b) (n := n) (f := f) ?_ ?_ hn hf (fun d k2 f' hf' => ?_)
        · show (Z ++ ws)[Z.length + qk]? = _
          rw [List.getElem?_append_right (by omega), Nat.add_sub_cancel_left]
          exact hk
        · show (Z ++ ws)[Z.length + qb]? = _
          rw [List.getElem?_append_right (by omega), Nat.add_sub_cancel_left]
          exact he
        · refine n_entry hX ?_
          have e9 : nI as.length + nI 1 = nI (as.length + 1) := nI_add _ _
          refine ⟨?_, ⟨by decide, by decide⟩, ?_⟩
          · obtain ⟨q0, fs9, h9⟩ := hrec
            exact ⟨q0 + 3, fs9, h9⟩
          · refine b_Meets.pre (ws' := Z ++ ((d, .inl (X.2.2.1 0, n, .inl f')) :: (k2, .inr (4, [.ref d, .int (nI n)])) :: (en, .inr (3, [.int (nI as.length + nI 1), .int (nI j), .ref k2])) :: ws)) (t := []) ?_ ?_
            · rw [List.append_nil]
              exact List.perm_middle.trans ((List.perm_middle.trans ((List.perm_middle).cons _)).cons _)
            · refine j_add hX hmi h1 h2 g3 hZ (fun a ha => ?_) ⟨2, _, rfl⟩ (fun Z' hZ' => ?_)
              · obtain ⟨q0, fs9, h9⟩ := hel a ha
                exact ⟨q0 + 3, fs9, h9⟩
              · refine ⟨?_, trivial⟩
                rw [e9]
                exact hK1 j (by omega) rfl g3 d k2 en f' Z' hf' hZ'
    · rintro ⟨-, g4⟩
      exact g3 (nI_lt g4 (by omega))
end Ad
