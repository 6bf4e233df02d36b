/-! The law's loop, and its beginning -/
section Lp
variable {X0 : aX} {e0 mi : Nat} {tk : Nat → Nat} {b L : Nat} {xs : Nat → Int32} {AT : Nat → bN}
set_option maxRecDepth 100000 in
theorem lw_exit (step : lStep X0 AT) {cs ss : Nat} {ws : va_W} : AT 533 cs ss ws [] [] := step [] 1 _ _ _ _ _ _ rfl
theorem lw_gt {i L : Nat} (hi : i ≤ 100000) (hL : L ≤ 100000) : nI L - nI 3 < nI i ↔ L < i + 3 := by
  rw [Int32.lt_iff_toInt_lt, pk_sub_toInt (by omega) (by omega), nI_toInt (by omega)]
  omega
set_option maxRecDepth 100000 in
theorem lw_body (step : lStep X0 AT) {o om oa : Nat} (call : lCall X0 AT o oa) (hE : okE X0 e0 mi tk) (hV : okV X0) (hx : b_ox X0 b L xs) (hL : L ≤ 1536) {i cs ss : Nat} {ws : va_W} (hi : i + 2 < L) (hcs : cs + 60 ≤ 603072) (hss : ss + 7200 ≤ 7194730) (hs : lwS X0 e0 oa tk o om ws)
    (next : ∀ ws' cs' ss', lwS X0 e0 oa tk o om ws' → cs' ≤ cs + 60 → ss' ≤ ss + 7200 → AT 527 cs' ss' ws' (al4 b o om oa i) []) : AT 32 cs ss ws (al4 b o om oa i) [] := by
  refine step [(527, [0, 1, 2, 3, 4]), (108, [0, 1, 2, 3, 4]), (131, [0, 1, 2, 3, 4]), (156, [0, 1, 2, 3, 4]), (197, [0, 1, 2, 3, 4]), (234, [0, 1, 2, 3, 4]), (259, [0, 1, 2, 3, 4]), (272, [0, 1, 2, 3, 4]), (328, [0, 1, 2, 3, 4]), (365, [0, 1, 2, 3, 4]), (390, [0, 1, 2, 3, 4]), (403, [0, 1, 2, 3, 4]), (440, [0, 1, 2, 3, 4]), (453, [0, 1, 2, 3, 4]), (490, [0, 1, 2, 3, 4])] 1 _ _ _ _ _ _ ?_
  refine ⟨L, xs, hx, i, ⟨by omega, by omega, rfl⟩, ⟨?_, fun _ => next _ _ _ hs (by omega) (by omega)⟩⟩
  exact ⟨fun _ => lw_0 (AT := AT) step hE hx hi hL hs next, fun _ => lw_1 (AT := AT) step hE hx hi hL hs next, fun _ => lw_2 (AT := AT) step hE hx hi hL hs next, fun _ => lw_3 (AT := AT) step hE hx hi hL hs next, fun _ => lw_4 (AT := AT) step hE hx hi hL hs next, fun _ => lw_5 (AT := AT) step hE hs next, fun _ => lw_6 (AT := AT) step call hE hV hx hi hL hcs hss hs next, fun _ => lw_7 (AT := AT) step hE hx hi hL hs next, fun _ => lw_8 (AT := AT) step hE hx hi hL hcs hss hs next, fun _ => lw_9 (AT := AT) step hE hcs hss hs next, fun _ => lw_10 (AT := AT) step hE hx hi hL hs next, fun _ => lw_11 (AT := AT) step hE hx hi hL hs next, fun _ => lw_12 (AT := AT) step hE hx hi hL hs next, fun _ => lw_13 (AT := AT) step hE hx hi hL hs next, trivial⟩
set_option maxRecDepth 100000 in
theorem lw_loop (step : lStep X0 AT) {o om oa : Nat} (call : lCall X0 AT o oa) (hE : okE X0 e0 mi tk) (hV : okV X0) (hx : b_ox X0 b L xs) (hL : L ≤ 1536) :
    ∀ (n i cs ss : Nat) (ws : va_W), L ≤ i + 3 * n + 2 → i ≤ L → cs ≤ 100 + 20 * i → ss ≤ 30000 + 2400 * i → lwS X0 e0 oa tk o om ws → AT 23 cs ss ws (al4 b o om oa i) [] := by
  intro n
  induction n with
  | zero =>
    intro i cs ss ws h1 h2 h3 h4 hs
    refine step [(32, [0, 1, 2, 3, 4]), (533, [])] 1 _ _ _ _ _ _ ?_
    refine ⟨L, Or.inr (Or.inr ⟨xs, hx⟩), fun g => lw_exit step, fun g => ?_⟩
    exact absurd ((lw_gt (by omega) (by omega)).mpr (by omega)) g
  | succ n ih =>
    intro i cs ss ws h1 h2 h3 h4 hs
    refine step [(32, [0, 1, 2, 3, 4]), (533, [])] 1 _ _ _ _ _ _ ?_
    refine ⟨L, Or.inr (Or.inr ⟨xs, hx⟩), fun g => lw_exit step, fun g => ?_⟩
    have hi : i + 2 < L := by
      have : ¬ L < i + 3 := fun h => g ((lw_gt (by omega) (by omega)).mpr h)
      omega
    refine lw_body step call hE hV hx hL hi (by omega) (by omega) hs (fun ws' cs' ss' hs' q1 q2 => ?_)
    refine step [(23, [0, 1, 2, 3, 4])] 1 _ _ _ _ _ _ ?_
    have key := ih (i + 3) cs' ss' ws' (by omega) (by omega) (by omega) (by omega) hs'
    unfold al4 at key
    rw [← nI_add i 3] at key
    exact key
/-! the beginning -/
def adI (o om : Nat) (a c tk : Nat → Nat) (i : Nat) : Nat := if i < 28 then [o, a 0, a 1, a 2, a 3, a 4, a 5, a 6, a 7, a 8, a 9, a 10, a 11, a 12, a 13, om, c 0, c 1, c 2, c 3, c 4, c 5, c 6, c 7, c 8, c 9, c 10, c 11].getD i 0 else if i = 2000000 then a 14 else if i = 2000001 then a 15 else tk (i - 1000000)
set_option maxRecDepth 100000 in
theorem lw_S0 {o om oa : Nat} {a c : Nat → Nat} : lwS X0 e0 oa tk o om ((oa, .inl (X0.2.2.1 5, 1, .inr (.inl fun _ => 0))) :: (b_new8 X0 om c ++ (b_new7 X0 e0 o a ++ []))) := by
  refine ⟨0, [], 0, 0, false, fun _ => false, [], [], [], 0, ⟨by simp, by simp, fun x hx => absurd hx (by simp), by decide, ⟨by simp, fun x hx => absurd hx (by simp)⟩, by simp, ⟨by simp, fun r hr => absurd hr (by simp)⟩, by simp⟩, ?_⟩
  refine ⟨adI o om a c tk, [], fun _ _ => 0, [[], []], [(a 14, .inr (2, [.int (nI 0), .ref e0, .int (nI 0)]))] ++ ([(a 15, .inr (2, [.int (nI 0), .ref e0, .int (nI 0)]))] ++ [(oa, .inl (X0.2.2.1 5, 1, .inr (.inl fun _ => 0)))]), ?_, ?_, ⟨?_, ?_⟩, rfl, rfl⟩
  · refine ⟨[], [], _, _, fun _ => 0, rfl, fun v hv => absurd hv (by simp), fun v hv => absurd hv (by simp), ⟨nI 0, e0, [], Or.inl ⟨rfl, rfl, rfl⟩, rfl⟩, ⟨nI 0, e0, [], Or.inl ⟨rfl, rfl, rfl⟩, rfl⟩, rfl, rfl, fun j hj => ?_⟩
    unfold adI
    rw [if_neg (by omega), if_neg (by omega), if_neg (by omega), Nat.add_sub_cancel_left]
  · have e1 : a_ws (adI o om a c tk) X0.2.2.1 (a_LL []) (fun _ _ => 0) = ((b_new7 X0 e0 o a).drop 2).reverse ++ (b_new8 X0 om c).reverse := by
      unfold a_ws a_LL a_L0 a_Lp
      simp only [List.append_nil, List.mapIdx_cons, List.mapIdx_nil, a_ce, a_fv, a_cv]
      rfl
    have e2 : b_new7 X0 e0 o a = (a 15, .inr (2, [.int (nI 0), .ref e0, .int (nI 0)])) :: (a 14, .inr (2, [.int (nI 0), .ref e0, .int (nI 0)])) :: (b_new7 X0 e0 o a).drop 2 := rfl
    rw [e1, e2, List.append_nil]
    generalize b_new8 X0 om c = N8
    simp only [List.drop_succ_cons, List.drop_zero]
    generalize (b_new7 X0 e0 o a).drop 2 = N7
    generalize ((a 15, Sum.inr (2, [Value.int (nI 0), Value.ref e0, Value.int (nI 0)])) : Nat × va_E) = x15
    generalize ((a 14, Sum.inr (2, [Value.int (nI 0), Value.ref e0, Value.int (nI 0)])) : Nat × va_E) = x14
    generalize ((oa, Sum.inl (X0.2.2.1 5, 1, Sum.inr (Sum.inl fun _ => 0))) : Nat × va_E) = xo
    have p1 : (xo :: (N8 ++ x15 :: x14 :: N7)).Perm ([x14, x15, xo] ++ (N8 ++ N7)) := by
      have q1 : (N8 ++ x15 :: x14 :: N7).Perm (x15 :: x14 :: (N8 ++ N7)) := List.perm_middle.trans (List.perm_middle.cons _)
      refine (q1.cons xo).trans ?_
      have q2 : [xo, x15, x14].Perm [x14, x15, xo] := by
        refine (List.Perm.swap _ _ _).trans ?_
        refine ((List.Perm.swap _ _ _).cons _).trans ?_
        exact List.Perm.swap _ _ _
      exact List.Perm.append_right (N8 ++ N7) q2
    refine p1.trans ?_
    refine List.perm_append_comm.trans ?_
    refine List.Perm.append_right _ ?_
    refine List.perm_append_comm.trans ?_
    exact List.Perm.append (List.reverse_perm N7).symm (List.reverse_perm N8).symm
  · refine ⟨rfl, rfl, fun j hj => absurd hj (by simp), fun j hj => rfl, rfl, rfl, ⟨rfl, fun j hj => absurd hj (by simp)⟩, ⟨rfl, fun j hj => absurd hj (by simp)⟩, fun r hr => absurd hr (by simp), rfl, rfl⟩
  · refine ⟨rfl, rfl, fun j hj => absurd hj (by simp), fun j hj => rfl, rfl, rfl, ⟨rfl, fun j hj => absurd hj (by simp)⟩, ⟨rfl, fun j hj => absurd hj (by simp)⟩, ⟨rfl, fun r hr => absurd hr (by simp)⟩, ⟨rfl, fun j hj => absurd hj (by simp [srt])⟩⟩
set_option maxRecDepth 100000 in
theorem lw_init (step : lStep X0 AT) (hE : okE X0 e0 mi tk) (loop : ∀ (o om oa cs ss : Nat) (ws : va_W), cs ≤ 100 → ss ≤ 30000 → lwS X0 e0 oa tk o om ws → AT 23 cs ss ws (al4 b o om oa 0) []) : AT 0 0 0 [] [(0, .ref b)] [] := by
  refine step [(23, [0, 1, 2, 3, 4])] 1 _ _ _ _ _ _ ?_
  refine ⟨⟨by decide, by decide⟩, fun o => ⟨⟨by decide, by decide⟩, ?_⟩⟩
  refine n_order hE.1 hE.2.2.1 (fun a => ?_)
  refine ⟨⟨by decide, by decide⟩, fun om => ⟨⟨by decide, by decide⟩, ?_⟩⟩
  refine n_model hE.1 (fun c => ?_)
  refine ⟨1, ⟨rfl, by decide⟩, ⟨by decide, by decide⟩, fun oa => ?_⟩
  exact loop o om oa _ _ _ (by decide) (by decide) lw_S0
end Lp
