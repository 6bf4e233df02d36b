/-! The law's other cases -/
section Cs
variable {X0 : aX} {e0 mi oa : Nat} {tk : Nat → Nat} {o om b L : Nat} {xs : Nat → Int32} {AT : Nat → bN} {ws : va_W} {cs ss i : Nat}
set_option maxRecDepth 100000 in
theorem lw_7 (step : lStep X0 AT) (hE : okE X0 e0 mi tk) (hx : b_ox X0 b L xs) (hi : i + 2 < L) (hL : L ≤ 1536) (hs : lwS X0 e0 oa tk o om ws)
    (next : ∀ ws' cs' ss', lwS X0 e0 oa tk o om ws' → cs' ≤ cs + 60 → ss' ≤ ss + 7200 → AT 527 cs' ss' ws' (al4 b o om oa i) []) : AT 328 cs ss ws (al4 b o om oa i) [] := by
  obtain ⟨w, l, left, lang, rom, sp, key, nm, recs, m, ⟨g1, g2, g3, g4, g5, g6, g7, g8⟩, hw⟩ := hs
  refine step [(527, [0, 1, 2, 3, 4])] 3 _ _ _ _ _ _ ?_
  refine ⟨L, xs, hx, i + 1, ⟨by omega, by omega, nI_add i 1⟩, L, xs, hx, i + 2, ⟨by omega, by omega, nI_add i 2⟩, recvC hw, ?_⟩
  refine callK (P' := cd l l left left lang lang rom rom sp sp key key nm nm recs recs m m) (ans := some (.int (mNu nm (xs (i + 1)) (xs (i + 2))))) (fun _ => ⟨rfl, rfl⟩) hw (fun ad ns σ z hP => c_number (mk_okX hE) g6 hP.1 hP.2) (fun ws1 hw1 => ?_)
  refine ⟨L, xs, hx, i + 1, ⟨by omega, by omega, nI_add i 1⟩, L, xs, hx, i + 2, ⟨by omega, by omega, nI_add i 2⟩, recvM hw1, ?_⟩
  refine callD (P' := cd l l left left lang lang rom rom sp sp key key nm nm recs recs m m) (ans := some (.int (mNu nm (xs (i + 1)) (xs (i + 2))))) (fun _ => ⟨rfl, rfl⟩) hw1 (fun ad ns σ z hP => d_number (mk_okX hE) g6 hP.1 hP.2) (fun ws2 hw2 => ?_)
  exact ⟨fun _ => next _ _ _ ⟨w, l, left, lang, rom, sp, key, nm, recs, m, ⟨g1, g2, g3, g4, g5, g6, g7, g8⟩, hw2⟩ (by omega) (by omega), fun g => absurd rfl g⟩
set_option maxRecDepth 100000 in
theorem lw_10 (step : lStep X0 AT) (hE : okE X0 e0 mi tk) (hx : b_ox X0 b L xs) (hi : i + 2 < L) (hL : L ≤ 1536) (hs : lwS X0 e0 oa tk o om ws)
    (next : ∀ ws' cs' ss', lwS X0 e0 oa tk o om ws' → cs' ≤ cs + 60 → ss' ≤ ss + 7200 → AT 527 cs' ss' ws' (al4 b o om oa i) []) : AT 403 cs ss ws (al4 b o om oa i) [] := by
  obtain ⟨w, l, left, lang, rom, sp, key, nm, recs, m, ⟨g1, g2, g3, g4, g5, g6, g7, g8⟩, hw⟩ := hs
  refine step [(527, [0, 1, 2, 3, 4])] 3 _ _ _ _ _ _ ?_
  refine ⟨L, xs, hx, i + 1, ⟨by omega, by omega, nI_add i 1⟩, L, xs, hx, i + 2, ⟨by omega, by omega, nI_add i 2⟩, recvC hw, ?_⟩
  refine callK (P' := cd l l left left lang lang rom rom sp sp key key nm nm recs recs m m) (ans := some (.int (mBr (srt recs m) (xs (i + 2)) (pOf (srt recs m) (xs (i + 1)) 0 (srt recs m).length)))) (fun _ => ⟨rfl, rfl⟩) hw (fun ad ns σ z hP => c_browse (mk_okX hE) (mk_okZ hE ad ns) g7 g8 hP.1 hP.2) (fun ws1 hw1 => ?_)
  refine ⟨L, xs, hx, i + 1, ⟨by omega, by omega, nI_add i 1⟩, L, xs, hx, i + 2, ⟨by omega, by omega, nI_add i 2⟩, recvM hw1, ?_⟩
  refine callD (P' := cd l l left left lang lang rom rom sp sp key key nm nm recs recs m m) (ans := some (.int (mBr (srt recs m) (xs (i + 2)) (pOf (srt recs m) (xs (i + 1)) 0 (srt recs m).length)))) (fun _ => ⟨rfl, rfl⟩) hw1 (fun ad ns σ z hP => d_browse (mk_okX hE) g7 g8 hP.1 hP.2) (fun ws2 hw2 => ?_)
  exact ⟨fun _ => next _ _ _ ⟨w, l, left, lang, rom, sp, key, nm, recs, m, ⟨g1, g2, g3, g4, g5, g6, g7, g8⟩, hw2⟩ (by omega) (by omega), fun g => absurd rfl g⟩
set_option maxRecDepth 100000 in
theorem lw_11 (step : lStep X0 AT) (hE : okE X0 e0 mi tk) (hx : b_ox X0 b L xs) (hi : i + 2 < L) (hL : L ≤ 1536) (hs : lwS X0 e0 oa tk o om ws)
    (next : ∀ ws' cs' ss', lwS X0 e0 oa tk o om ws' → cs' ≤ cs + 60 → ss' ≤ ss + 7200 → AT 527 cs' ss' ws' (al4 b o om oa i) []) : AT 440 cs ss ws (al4 b o om oa i) [] := by
  obtain ⟨w, l, left, lang, rom, sp, key, nm, recs, m, ⟨g1, g2, g3, g4, g5, g6, g7, g8⟩, hw⟩ := hs
  refine step [(527, [0, 1, 2, 3, 4])] 3 _ _ _ _ _ _ ?_
  refine ⟨recvC hw, ?_⟩
  refine callK (P' := cd l l left left lang lang rom rom sp sp key key nm nm recs recs m m) (ans := some (.int (mSk recs key (srt recs m) 0 (srt recs m).length))) (fun _ => ⟨rfl, rfl⟩) hw (fun ad ns σ z hP => c_seek (mk_okX hE) (mk_okZ hE ad ns) g7 g8 g5 hP.1 hP.2) (fun ws1 hw1 => ?_)
  refine ⟨recvM hw1, ?_⟩
  refine callD (P' := cd l l left left lang lang rom rom sp sp key key nm nm recs recs m m) (ans := some (.int (mSk recs key (srt recs m) 0 (srt recs m).length))) (fun _ => ⟨rfl, rfl⟩) hw1 (fun ad ns σ z hP => d_seek (mk_okX hE) g7 g8 g5 hP.1 hP.2) (fun ws2 hw2 => ?_)
  exact ⟨fun _ => next _ _ _ ⟨w, l, left, lang, rom, sp, key, nm, recs, m, ⟨g1, g2, g3, g4, g5, g6, g7, g8⟩, hw2⟩ (by omega) (by omega), fun g => absurd rfl g⟩
set_option maxRecDepth 100000 in
theorem lw_12 (step : lStep X0 AT) (hE : okE X0 e0 mi tk) (hx : b_ox X0 b L xs) (hi : i + 2 < L) (hL : L ≤ 1536) (hs : lwS X0 e0 oa tk o om ws)
    (next : ∀ ws' cs' ss', lwS X0 e0 oa tk o om ws' → cs' ≤ cs + 60 → ss' ≤ ss + 7200 → AT 527 cs' ss' ws' (al4 b o om oa i) []) : AT 453 cs ss ws (al4 b o om oa i) [] := by
  obtain ⟨w, l, left, lang, rom, sp, key, nm, recs, m, ⟨g1, g2, g3, g4, g5, g6, g7, g8⟩, hw⟩ := hs
  refine step [(527, [0, 1, 2, 3, 4])] 3 _ _ _ _ _ _ ?_
  refine ⟨L, xs, hx, i + 1, ⟨by omega, by omega, nI_add i 1⟩, L, xs, hx, i + 2, ⟨by omega, by omega, nI_add i 2⟩, recvC hw, ?_⟩
  refine callK (P' := cd l l left left lang lang rom rom sp sp key key nm nm recs recs m m) (ans := some (.int (mCm recs (xs (i + 1)) (xs (i + 2))))) (fun _ => ⟨rfl, rfl⟩) hw (fun ad ns σ z hP => c_compare (mk_okX hE) (mk_okZ hE ad ns) g7 hP.1 hP.2) (fun ws1 hw1 => ?_)
  refine ⟨L, xs, hx, i + 1, ⟨by omega, by omega, nI_add i 1⟩, L, xs, hx, i + 2, ⟨by omega, by omega, nI_add i 2⟩, recvM hw1, ?_⟩
  refine callD (P' := cd l l left left lang lang rom rom sp sp key key nm nm recs recs m m) (ans := some (.int (mCm recs (xs (i + 1)) (xs (i + 2))))) (fun _ => ⟨rfl, rfl⟩) hw1 (fun ad ns σ z hP => d_compare (mk_okX hE) g7 g5 hP.1 hP.2) (fun ws2 hw2 => ?_)
  exact ⟨fun _ => next _ _ _ ⟨w, l, left, lang, rom, sp, key, nm, recs, m, ⟨g1, g2, g3, g4, g5, g6, g7, g8⟩, hw2⟩ (by omega) (by omega), fun g => absurd rfl g⟩
set_option maxRecDepth 100000 in
theorem lw_13 (step : lStep X0 AT) (hE : okE X0 e0 mi tk) (hx : b_ox X0 b L xs) (hi : i + 2 < L) (hL : L ≤ 1536) (hs : lwS X0 e0 oa tk o om ws)
    (next : ∀ ws' cs' ss', lwS X0 e0 oa tk o om ws' → cs' ≤ cs + 60 → ss' ≤ ss + 7200 → AT 527 cs' ss' ws' (al4 b o om oa i) []) : AT 490 cs ss ws (al4 b o om oa i) [] := by
  obtain ⟨w, l, left, lang, rom, sp, key, nm, recs, m, ⟨g1, g2, g3, g4, g5, g6, g7, g8⟩, hw⟩ := hs
  refine step [(527, [0, 1, 2, 3, 4])] 3 _ _ _ _ _ _ ?_
  refine ⟨L, xs, hx, i + 1, ⟨by omega, by omega, nI_add i 1⟩, L, xs, hx, i + 2, ⟨by omega, by omega, nI_add i 2⟩, recvC hw, ?_⟩
  refine callK (P' := cd l l left left lang lang rom rom sp sp key key nm nm recs recs m m) (ans := some (.int (mEq recs (xs (i + 1)) (xs (i + 2))))) (fun _ => ⟨rfl, rfl⟩) hw (fun ad ns σ z hP => c_equal (mk_okX hE) (mk_okZ hE ad ns) g7 hP.1 hP.2) (fun ws1 hw1 => ?_)
  refine ⟨L, xs, hx, i + 1, ⟨by omega, by omega, nI_add i 1⟩, L, xs, hx, i + 2, ⟨by omega, by omega, nI_add i 2⟩, recvM hw1, ?_⟩
  refine callD (P' := cd l l left left lang lang rom rom sp sp key key nm nm recs recs m m) (ans := some (.int (mEq recs (xs (i + 1)) (xs (i + 2))))) (fun _ => ⟨rfl, rfl⟩) hw1 (fun ad ns σ z hP => d_equal (mk_okX hE) g7 g5 hP.1 hP.2) (fun ws2 hw2 => ?_)
  exact ⟨fun _ => next _ _ _ ⟨w, l, left, lang, rom, sp, key, nm, recs, m, ⟨g1, g2, g3, g4, g5, g6, g7, g8⟩, hw2⟩ (by omega) (by omega), fun g => absurd rfl g⟩
set_option maxRecDepth 100000 in
theorem lw_9 (step : lStep X0 AT) (hE : okE X0 e0 mi tk) (hcs : cs + 60 ≤ 603072) (hss : ss + 7200 ≤ 7194730) (hs : lwS X0 e0 oa tk o om ws)
    (next : ∀ ws' cs' ss', lwS X0 e0 oa tk o om ws' → cs' ≤ cs + 60 → ss' ≤ ss + 7200 → AT 527 cs' ss' ws' (al4 b o om oa i) []) : AT 390 cs ss ws (al4 b o om oa i) [] := by
  obtain ⟨w, l, left, lang, rom, sp, key, nm, recs, m, ⟨g1, g2, g3, g4, g5, g6, g7, g8⟩, hw⟩ := hs
  refine step [(527, [0, 1, 2, 3, 4])] 3 _ _ _ _ _ _ ?_
  refine ⟨recvC hw, ⟨hcs, hss⟩, ?_⟩
  refine callK (P' := cd l l left left lang lang rom rom sp sp key key nm nm recs recs recs.length m) (ans := some (.int (nI recs.length))) (fun _ => ⟨rfl, rfl⟩) hw (fun ad ns σ z hP => c_file (mk_okX hE) (mk_okZ hE ad ns) g7 g8 hP.1 hP.2) (fun ws1 hw1 => ?_)
  refine ⟨recvM hw1, ?_⟩
  refine callD (P' := cd l l left left lang lang rom rom sp sp key key nm nm recs recs recs.length recs.length) (ans := some (.int (nI recs.length))) (fun _ => ⟨rfl, rfl⟩) hw1 (fun ad ns σ z hP => d_file (mk_okX hE) g7 g5 hP.1 hP.2) (fun ws2 hw2 => ?_)
  exact ⟨fun _ => next _ _ _ ⟨w, l, left, lang, rom, sp, key, nm, recs, recs.length, ⟨g1, g2, g3, g4, g5, g6, g7, Nat.le_refl _⟩, hw2⟩ (by omega) (by omega), fun g => absurd rfl g⟩
theorem rOK_app {recs : mR} {j : Nat} {key : List Nat} (h : rOK recs) (hl : recs.length < 60) (hj : j < 4) (hk : kb key) : rOK (recs ++ [(j, key)]) := by
  refine ⟨by simp; omega, fun r hr => ?_⟩
  rw [List.length_append, List.length_singleton] at hr
  rw [rkO_app, kyO_app]
  by_cases e : r = recs.length
  · rw [if_pos e, if_pos e]
    exact ⟨hj, hk⟩
  · rw [if_neg e, if_neg e]
    exact h.2 r (by omega)
set_option maxRecDepth 100000 in
theorem lw_8 (step : lStep X0 AT) (hE : okE X0 e0 mi tk) (hx : b_ox X0 b L xs) (hi : i + 2 < L) (hL : L ≤ 1536) (hcs : cs + 60 ≤ 603072) (hss : ss + 7200 ≤ 7194730) (hs : lwS X0 e0 oa tk o om ws)
    (next : ∀ ws' cs' ss', lwS X0 e0 oa tk o om ws' → cs' ≤ cs + 60 → ss' ≤ ss + 7200 → AT 527 cs' ss' ws' (al4 b o om oa i) []) : AT 365 cs ss ws (al4 b o om oa i) [] := by
  obtain ⟨w, l, left, lang, rom, sp, key, nm, recs, m, ⟨g1, g2, g3, g4, g5, g6, g7, g8⟩, hw⟩ := hs
  refine step [(527, [0, 1, 2, 3, 4])] 3 _ _ _ _ _ _ ?_
  refine ⟨L, xs, hx, i + 1, ⟨by omega, by omega, nI_add i 1⟩, recvC hw, ⟨by show cs + 4 ≤ 603072; omega, by show ss + 380 ≤ 7194730; omega⟩, ?_⟩
  refine addK hE g7 g5 g8 hw (fun j hj e hlt ws1 hw1 => ?_) (fun h ws1 hw1 => ?_)
  · refine ⟨L, xs, hx, i + 1, ⟨by omega, by omega, nI_add i 1⟩, recvM hw1, ?_⟩
    refine callD (P' := cd l l left left lang lang rom rom sp sp key key nm nm (recs ++ [(j, key)]) (recs ++ [(j, key)]) m m) (ans := some (.int (nI (recs.length + 1)))) (fun _ => ⟨rfl, rfl⟩) hw1 (fun ad ns σ z hP => d_add (mk_okX hE) g7 g5 g8 hP.1 hP.2 (fun j' hj' e' _ => ?_) (fun h => absurd ⟨⟨j, hj, e⟩, hlt⟩ h)) (fun ws2 hw2 => ?_)
    · have : j = j' := (nI_eq (by omega) (by omega)).mp (e.symm.trans e')
      subst this
      exact ⟨rfl, rfl⟩
    · exact ⟨fun _ => next _ _ _ ⟨w, l, left, lang, rom, sp, key, nm, _, m, ⟨g1, g2, g3, g4, g5, g6, rOK_app g7 hlt hj g5, by simp; omega⟩, hw2⟩ (by show cs + 4 ≤ _; omega) (by show ss + 380 ≤ _; omega), fun g => absurd rfl g⟩
  · refine ⟨L, xs, hx, i + 1, ⟨by omega, by omega, nI_add i 1⟩, recvM hw1, ?_⟩
    refine callD (P' := cd l l left left lang lang rom rom sp sp key key nm nm recs recs m m) (ans := some (.int (nI 0))) (fun _ => ⟨rfl, rfl⟩) hw1 (fun ad ns σ z hP => d_add (mk_okX hE) g7 g5 g8 hP.1 hP.2 (fun j' hj' e' hl => absurd ⟨⟨j', hj', e'⟩, hl⟩ h) (fun _ => ⟨rfl, rfl⟩)) (fun ws2 hw2 => ?_)
    exact ⟨fun _ => next _ _ _ ⟨w, l, left, lang, rom, sp, key, nm, recs, m, ⟨g1, g2, g3, g4, g5, g6, g7, g8⟩, hw2⟩ (by show cs + 4 ≤ _; omega) (by show ss + 380 ≤ _; omega), fun g => absurd rfl g⟩
theorem outAt {P : List Nat → aS → aZ → Prop} {w : Int64} (h : WP X0 e0 oa tk o om w P ws) : ∃ (q0 : Nat) (f : Nat → Int64), ws[q0]? = some (oa, .inl (X0.2.2.1 5, 1, .inr (.inl f))) ∧ f 0 = w := by
  obtain ⟨ad, ns, σ, z, Z, ⟨l0, l1, Z0, Z1, g, -, -, -, -, -, gw, rfl, -⟩, h2, h3, rfl, rfl⟩ := h
  obtain ⟨q, hq⟩ := pm_at h2 (x := (oa, .inl (X0.2.2.1 5, 1, .inr (.inl g)))) (by simp)
  exact ⟨q, g, hq, gw⟩
theorem cmp_self (x : Int64) : lg_cmp x x = 0 := by simp [lg_cmp]
/-- the call of the law's own at, where it stands -/
def lCall (X0 : aX) (AT : Nat → bN) (o oa : Nat) : Prop := ∀ (cs ss : Nat) (ws : va_W) (al : aV) (c : Int32) (K : va_W → Option Value → Prop), Met X0.1 yL_at wsLat (a_rm mL_at) (va_Pc [.ref o, .int c, .ref oa] (b_Pr X0 ws)) (b_Qc X0 K) 1 6 (a_A X0) → cs + 1 ≤ 603072 → ss + 6 ≤ 7194730 →
  (∀ ws' r, K ws' r → AT 283 (cs + 1) (ss + 6) ws' al (a_ps r [])) → AT 280 cs ss ws al [.ref oa, .int c, .ref o]
set_option maxRecDepth 100000 in
theorem lw_6 (step : lStep X0 AT) (call : lCall X0 AT o oa) (hE : okE X0 e0 mi tk) (hV : okV X0) (hx : b_ox X0 b L xs) (hi : i + 2 < L) (hL : L ≤ 1536) (hcs : cs + 60 ≤ 603072) (hss : ss + 7200 ≤ 7194730) (hs : lwS X0 e0 oa tk o om ws)
    (next : ∀ ws' cs' ss', lwS X0 e0 oa tk o om ws' → cs' ≤ cs + 60 → ss' ≤ ss + 7200 → AT 527 cs' ss' ws' (al4 b o om oa i) []) : AT 272 cs ss ws (al4 b o om oa i) [] := by
  obtain ⟨w, l, left, lang, rom, sp, key, nm, recs, m, ⟨g1, g2, g3, g4, g5, g6, g7, g8⟩, hw⟩ := hs
  have hk1 := g5.1
  refine step [(280, [0, 1, 2, 3, 4])] 1 _ _ _ _ _ _ ?_
  refine ⟨L, xs, hx, i + 1, ⟨by omega, by omega, nI_add i 1⟩, ?_⟩
  refine call _ _ _ _ _ (fun ws' r => ∃ w' : Int64, r = some (.int (mAt key (xs (i + 1))).1) ∧ ((mAt key (xs (i + 1))).1 = 0 → w' = (mAt key (xs (i + 1))).2.toInt64) ∧ ((mAt key (xs (i + 1))).1 = 0 ∨ (mAt key (xs (i + 1))).1 = 1) ∧ WP X0 e0 oa tk o om w' (cd l l left left lang lang rom rom sp sp key key nm nm recs recs m m) ws') ?_ (by omega) (by omega) ?_
  · refine latK hE hV g5 hw (fun j hj e ws' hw' => ?_) (fun h ws' hw' => ?_)
    · rw [e, mAt_t (by omega) hj]
      exact ⟨_, rfl, fun _ => rfl, Or.inl rfl, hw'⟩
    · rw [mAt_f (by omega) h]
      exact ⟨w, rfl, fun h => absurd h (by decide), Or.inr rfl, hw'⟩
  · rintro ws1 r ⟨w', rfl, hwk, h01, hw1⟩
    generalize hka : (mAt key (xs (i + 1))).1 = ka at hwk h01
    generalize hva : (mAt key (xs (i + 1))).2 = va at hwk
    refine step [(527, [0, 1, 2, 3, 4])] 6 _ _ _ _ _ _ ?_
    refine ⟨L, xs, hx, i + 1, ⟨by omega, by omega, nI_add i 1⟩, recvM hw1, ?_⟩
    refine callD (P' := fun ns σ z => (cd l l left left lang lang rom rom sp sp key key nm nm recs recs m m ns σ z ∧ σ 15 0 = ka)) (ans := some (.int va)) (fun _ => ⟨rfl, rfl⟩) hw1 (fun ad ns σ z hP => by rw [← hka, ← hva]; exact d_at (mk_okX hE) g5 hP.1 hP.2) (fun ws2 hw2 => ?_)
    refine ⟨recvM hw2, ?_⟩
    refine callD (P' := cd l l left left lang lang rom rom sp sp key key nm nm recs recs m m) (ans := some (.int ka)) (fun _ => ⟨rfl, rfl⟩) hw2 (fun ad ns σ z hP => d_thrown (mk_okX hE) hP.1.1 hP.1.2 hP.2) (fun ws3 hw3 => ?_)
    have fin := next _ (cs + 1) (ss + 6) ⟨w', l, left, lang, rom, sp, key, nm, recs, m, ⟨g1, g2, g3, g4, g5, g6, g7, g8⟩, hw3⟩ (by omega) (by omega)
    refine ⟨fun _ => ⟨fun _ => fin, fun g => ?_⟩, fun g => absurd rfl g⟩
    have g : ka = 0 := g
    obtain ⟨q0, f, hq, hf0⟩ := outAt hw3
    refine ⟨q0, 1, f, hq, 0, ⟨by decide, by decide, rfl⟩, ?_⟩
    refine ⟨fun _ => fin, fun g2 => absurd ?_ g2⟩
    show lg_cmp (f 0) va.toInt64 = 0
    rw [hf0, hwk g]
    exact cmp_self _
end Cs
