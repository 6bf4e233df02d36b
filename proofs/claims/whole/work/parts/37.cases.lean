/-! The law's cases -/
def lK : va_W → Option Value → Prop := fun _ r => r = some (.int (nI 1))
def lStep (X0 : aX) (AT : Nat → bN) : Prop := ∀ (cuts : List (Nat × List Nat)) (n : Nat) (t cs ss : Nat) (ws : va_W) (al : aV) (st : List Value), b_run X0 mL_law lK AT cuts (b_jmp X0 mL_law lK qL_law AT cuts n) (a_suf qL_law 0 t) t cs ss ws al st → AT t cs ss ws al st
abbrev al4 (b o om oa i : Nat) : aV := [(0, .ref b), (1, .ref o), (2, .ref om), (3, .ref oa), (4, .int (nI i))]
def lwS (X0 : aX) (e0 oa : Nat) (tk : Nat → Nat) (o om : Nat) (ws : va_W) : Prop :=
  ∃ (w : Int64) (l : List Nat) (left lang : Nat) (rom : Bool) (sp : Nat → Bool) (key : List Nat) (nm : List (Nat × Bool × Nat)) (recs : mR) (m : Nat), gI l left lang key nm recs m ∧ WP X0 e0 oa tk o om w (cd l l left left lang lang rom rom sp sp key key nm nm recs recs m m) ws
section Cs
variable {X0 : aX} {e0 mi oa : Nat} {tk : Nat → Nat} {o om b L : Nat} {xs : Nat → Int32} {AT : Nat → bN} {ws : va_W} {cs ss i : Nat}
set_option maxRecDepth 100000 in
theorem lw_0 (step : lStep X0 AT) (hE : okE X0 e0 mi tk) (hx : b_ox X0 b L xs) (hi : i + 2 < L) (hL : L ≤ 1536) (hs : lwS X0 e0 oa tk o om ws)
    (next : ∀ ws' cs' ss', lwS X0 e0 oa tk o om ws' → cs' ≤ cs + 60 → ss' ≤ ss + 7200 → AT 527 cs' ss' ws' (al4 b o om oa i) []) : AT 108 cs ss ws (al4 b o om oa i) [] := by
  obtain ⟨w, l, left, lang, rom, sp, key, nm, recs, m, ⟨g1, g2, g3, g4, g5, g6, g7, g8⟩, hw⟩ := hs
  refine step [(527, [0, 1, 2, 3, 4])] 3 _ _ _ _ _ _ ?_
  refine ⟨L, xs, hx, i + 1, ⟨by omega, by omega, nI_add i 1⟩, recvC hw, ?_⟩
  refine callK (P' := cd (mTi l (xs (i + 1))) l left left lang lang rom rom sp sp key key nm nm recs recs m m) (ans := none) (fun _ => ⟨rfl, rfl⟩) hw (fun ad ns σ z hP => c_title (mk_okX hE) g1 hP.1 hP.2) (fun ws1 hw1 => ?_)
  refine ⟨L, xs, hx, i + 1, ⟨by omega, by omega, nI_add i 1⟩, recvM hw1, ?_⟩
  refine callD (P' := cd (mTi l (xs (i + 1))) (mTi l (xs (i + 1))) left left lang lang rom rom sp sp key key nm nm recs recs m m) (ans := none) (fun _ => ⟨rfl, rfl⟩) hw1 (fun ad ns σ z hP => d_title (mk_okX hE) g1 hP.1 hP.2) (fun ws2 hw2 => ?_)
  have hk := mTi_ok (c := xs (i + 1)) g1 g3
  have hle : left ≤ (mTi l (xs (i + 1))).length := by
    unfold mTi
    split
    · simp; omega
    · exact g2
  exact next _ _ _ ⟨w, _, left, lang, rom, sp, key, nm, recs, m, ⟨hk.1, hle, hk.2, g4, g5, g6, g7, g8⟩, hw2⟩ (by omega) (by omega)
set_option maxRecDepth 100000 in
theorem lw_1 (step : lStep X0 AT) (hE : okE X0 e0 mi tk) (hx : b_ox X0 b L xs) (hi : i + 2 < L) (hL : L ≤ 1536) (hs : lwS X0 e0 oa tk o om ws)
    (next : ∀ ws' cs' ss', lwS X0 e0 oa tk o om ws' → cs' ≤ cs + 60 → ss' ≤ ss + 7200 → AT 527 cs' ss' ws' (al4 b o om oa i) []) : AT 131 cs ss ws (al4 b o om oa i) [] := by
  obtain ⟨w, l, left, lang, rom, sp, key, nm, recs, m, ⟨g1, g2, g3, g4, g5, g6, g7, g8⟩, hw⟩ := hs
  refine step [(527, [0, 1, 2, 3, 4])] 3 _ _ _ _ _ _ ?_
  refine ⟨L, xs, hx, i + 1, ⟨by omega, by omega, nI_add i 1⟩, recvC hw, ?_⟩
  refine callK (P' := cd l l left left (mLa lang (xs (i + 1))).1 lang rom rom sp sp key key nm nm recs recs m m) (ans := some (.int (mLa lang (xs (i + 1))).2)) (fun _ => ⟨rfl, rfl⟩) hw (fun ad ns σ z hP => c_language (mk_okX hE) hP.1 hP.2) (fun ws1 hw1 => ?_)
  refine ⟨L, xs, hx, i + 1, ⟨by omega, by omega, nI_add i 1⟩, recvM hw1, ?_⟩
  refine callD (P' := cd l l left left (mLa lang (xs (i + 1))).1 (mLa lang (xs (i + 1))).1 rom rom sp sp key key nm nm recs recs m m) (ans := some (.int (mLa lang (xs (i + 1))).2)) (fun _ => ⟨rfl, rfl⟩) hw1 (fun ad ns σ z hP => d_language (mk_okX hE) hP.1 hP.2) (fun ws2 hw2 => ?_)
  exact ⟨fun _ => next _ _ _ ⟨w, l, left, _, rom, sp, key, nm, recs, m, ⟨g1, g2, g3, mLa_lt g4, g5, g6, g7, g8⟩, hw2⟩ (by omega) (by omega), fun g => absurd rfl g⟩
theorem b2i_n1 : nI 1 = b2i true := by decide
theorem b2i_n0 : nI 0 = b2i false := by decide
set_option maxRecDepth 100000 in
theorem lw_2 (step : lStep X0 AT) (hE : okE X0 e0 mi tk) (hx : b_ox X0 b L xs) (hi : i + 2 < L) (hL : L ≤ 1536) (hs : lwS X0 e0 oa tk o om ws)
    (next : ∀ ws' cs' ss', lwS X0 e0 oa tk o om ws' → cs' ≤ cs + 60 → ss' ≤ ss + 7200 → AT 527 cs' ss' ws' (al4 b o om oa i) []) : AT 156 cs ss ws (al4 b o om oa i) [] := by
  obtain ⟨w, l, left, lang, rom, sp, key, nm, recs, m, ⟨g1, g2, g3, g4, g5, g6, g7, g8⟩, hw⟩ := hs
  have hC : ∀ (bb : Bool) (x : Int32), x = b2i bb → ∀ (ws : va_W) (P : List Nat → aS → aZ → Prop), (P = cd l l left left lang lang rom rom sp sp key key nm nm recs recs m m) → WP X0 e0 oa tk o om w P ws → ∀ K : va_W → Option Value → Prop, (∀ ws', WP X0 e0 oa tk o om w (cd l l left left lang lang bb rom sp sp key key nm nm recs recs m m) ws' → K ws' (some (.int (b2i rom)))) → b_Meets X0 mX7_roman ws [.ref o, .int x] K := by
    intro bb x hx2 ws P hP hw K hK
    subst hx2 hP
    exact callK (P' := cd l l left left lang lang bb rom sp sp key key nm nm recs recs m m) (ans := some (.int (b2i rom))) (fun _ => ⟨rfl, rfl⟩) hw (fun ad ns σ z hP => c_roman (mk_okX hE) hP.1 hP.2) hK
  have hD : ∀ (bb : Bool) (x : Int32), x = b2i bb → ∀ (ws : va_W), WP X0 e0 oa tk o om w (cd l l left left lang lang bb rom sp sp key key nm nm recs recs m m) ws → ∀ K : va_W → Option Value → Prop, (∀ ws', WP X0 e0 oa tk o om w (cd l l left left lang lang bb bb sp sp key key nm nm recs recs m m) ws' → K ws' (some (.int (b2i rom)))) → b_Meets X0 mX8_roman ws [.ref om, .int x] K := by
    intro bb x hx2 ws hw K hK
    subst hx2
    exact callD (P' := cd l l left left lang lang bb bb sp sp key key nm nm recs recs m m) (ans := some (.int (b2i rom))) (fun _ => ⟨rfl, rfl⟩) hw (fun ad ns σ z hP => d_roman (mk_okX hE) hP.1 hP.2) hK
  refine step [(527, [0, 1, 2, 3, 4])] 6 _ _ _ _ _ _ ?_
  refine ⟨L, xs, hx, i + 1, ⟨by omega, by omega, nI_add i 1⟩, fun g => ⟨recvC hw, ?_⟩, fun g => ⟨recvC hw, ?_⟩⟩
  · refine hC false _ b2i_n0 _ _ rfl hw _ (fun ws1 hw1 => ?_)
    refine ⟨L, xs, hx, i + 1, ⟨by omega, by omega, nI_add i 1⟩, fun g' => ⟨recvM hw1, ?_⟩, fun g' => absurd g g'⟩
    refine hD false _ b2i_n0 _ hw1 _ (fun ws2 hw2 => ?_)
    exact ⟨fun _ => next _ _ _ ⟨w, l, left, lang, _, sp, key, nm, recs, m, ⟨g1, g2, g3, g4, g5, g6, g7, g8⟩, hw2⟩ (by omega) (by omega), fun g => absurd rfl g⟩
  · refine hC true _ b2i_n1 _ _ rfl hw _ (fun ws1 hw1 => ?_)
    refine ⟨L, xs, hx, i + 1, ⟨by omega, by omega, nI_add i 1⟩, fun g' => absurd g' g, fun g' => ⟨recvM hw1, ?_⟩⟩
    refine hD true _ b2i_n1 _ hw1 _ (fun ws2 hw2 => ?_)
    exact ⟨fun _ => next _ _ _ ⟨w, l, left, lang, _, sp, key, nm, recs, m, ⟨g1, g2, g3, g4, g5, g6, g7, g8⟩, hw2⟩ (by omega) (by omega), fun g => absurd rfl g⟩
set_option maxRecDepth 100000 in
theorem lw_3 (step : lStep X0 AT) (hE : okE X0 e0 mi tk) (hx : b_ox X0 b L xs) (hi : i + 2 < L) (hL : L ≤ 1536) (hs : lwS X0 e0 oa tk o om ws)
    (next : ∀ ws' cs' ss', lwS X0 e0 oa tk o om ws' → cs' ≤ cs + 60 → ss' ≤ ss + 7200 → AT 527 cs' ss' ws' (al4 b o om oa i) []) : AT 197 cs ss ws (al4 b o om oa i) [] := by
  obtain ⟨w, l, left, lang, rom, sp, key, nm, recs, m, ⟨g1, g2, g3, g4, g5, g6, g7, g8⟩, hw⟩ := hs
  refine step [(527, [0, 1, 2, 3, 4])] 3 _ _ _ _ _ _ ?_
  refine ⟨L, xs, hx, i + 1, ⟨by omega, by omega, nI_add i 1⟩, L, xs, hx, i + 2, ⟨by omega, by omega, nI_add i 2⟩, recvC hw, ?_⟩
  refine callK (P' := cd l l left left lang lang rom rom (mMa sp (xs (i + 1)) (xs (i + 2))).1 sp key key nm nm recs recs m m) (ans := some (.int (mMa sp (xs (i + 1)) (xs (i + 2))).2)) (fun _ => ⟨rfl, rfl⟩) hw (fun ad ns σ z hP => c_mark (mk_okX hE) hP.1 hP.2) (fun ws1 hw1 => ?_)
  refine ⟨L, xs, hx, i + 1, ⟨by omega, by omega, nI_add i 1⟩, L, xs, hx, i + 2, ⟨by omega, by omega, nI_add i 2⟩, recvM hw1, ?_⟩
  refine callD (P' := cd l l left left lang lang rom rom (mMa sp (xs (i + 1)) (xs (i + 2))).1 (mMa sp (xs (i + 1)) (xs (i + 2))).1 key key nm nm recs recs m m) (ans := some (.int (mMa sp (xs (i + 1)) (xs (i + 2))).2)) (fun _ => ⟨rfl, rfl⟩) hw1 (fun ad ns σ z hP => d_mark (mk_okX hE) hP.1 hP.2) (fun ws2 hw2 => ?_)
  exact ⟨fun _ => next _ _ _ ⟨w, l, left, lang, rom, _, key, nm, recs, m, ⟨g1, g2, g3, g4, g5, g6, g7, g8⟩, hw2⟩ (by omega) (by omega), fun g => absurd rfl g⟩
set_option maxRecDepth 100000 in
theorem lw_4 (step : lStep X0 AT) (hE : okE X0 e0 mi tk) (hx : b_ox X0 b L xs) (hi : i + 2 < L) (hL : L ≤ 1536) (hs : lwS X0 e0 oa tk o om ws)
    (next : ∀ ws' cs' ss', lwS X0 e0 oa tk o om ws' → cs' ≤ cs + 60 → ss' ≤ ss + 7200 → AT 527 cs' ss' ws' (al4 b o om oa i) []) : AT 234 cs ss ws (al4 b o om oa i) [] := by
  obtain ⟨w, l, left, lang, rom, sp, key, nm, recs, m, ⟨g1, g2, g3, g4, g5, g6, g7, g8⟩, hw⟩ := hs
  refine step [(527, [0, 1, 2, 3, 4])] 3 _ _ _ _ _ _ ?_
  refine ⟨L, xs, hx, i + 1, ⟨by omega, by omega, nI_add i 1⟩, recvC hw, ?_⟩
  refine callK (P' := cd l l (mSp l.length left (xs (i + 1))).1 left lang lang rom rom sp sp key key nm nm recs recs m m) (ans := some (.int (mSp l.length left (xs (i + 1))).2)) (fun _ => ⟨rfl, rfl⟩) hw (fun ad ns σ z hP => c_skip (mk_okX hE) g1 hP.1 hP.2) (fun ws1 hw1 => ?_)
  refine ⟨L, xs, hx, i + 1, ⟨by omega, by omega, nI_add i 1⟩, recvM hw1, ?_⟩
  refine callD (P' := cd l l (mSp l.length left (xs (i + 1))).1 (mSp l.length left (xs (i + 1))).1 lang lang rom rom sp sp key key nm nm recs recs m m) (ans := some (.int (mSp l.length left (xs (i + 1))).2)) (fun _ => ⟨rfl, rfl⟩) hw1 (fun ad ns σ z hP => d_skip (mk_okX hE) g1 hP.1 hP.2) (fun ws2 hw2 => ?_)
  exact ⟨fun _ => next _ _ _ ⟨w, l, _, lang, rom, sp, key, nm, recs, m, ⟨g1, mSp_le (by omega) g2, g3, g4, g5, g6, g7, g8⟩, hw2⟩ (by omega) (by omega), fun g => absurd rfl g⟩
set_option maxRecDepth 100000 in
theorem lw_5 (step : lStep X0 AT) (hE : okE X0 e0 mi tk) (hs : lwS X0 e0 oa tk o om ws)
    (next : ∀ ws' cs' ss', lwS X0 e0 oa tk o om ws' → cs' ≤ cs + 60 → ss' ≤ ss + 7200 → AT 527 cs' ss' ws' (al4 b o om oa i) []) : AT 259 cs ss ws (al4 b o om oa i) [] := by
  obtain ⟨w, l, left, lang, rom, sp, key, nm, recs, m, ⟨g1, g2, g3, g4, g5, g6, g7, g8⟩, hw⟩ := hs
  refine step [(527, [0, 1, 2, 3, 4])] 3 _ _ _ _ _ _ ?_
  refine ⟨recvC hw, ?_⟩
  refine callK (P' := fun ns σ z => (cI ns σ z [] 0 lang rom sp (mKey l left lang rom sp).1 (mKey l left lang rom sp).2 recs m ∧ (mKey l left lang rom sp).1.length ≤ 240 ∧ (mKey l left lang rom sp).2.length ≤ 40) ∧ dI σ l left lang rom sp key nm recs m) (ans := some (.int (nI (mKey l left lang rom sp).1.length))) (fun _ => ⟨rfl, rfl⟩) hw (fun ad ns σ z hP => c_key (mk_okX hE) (mk_okT hE ad _) g1 g2 g3 g4 hP.1 hP.2) (fun ws1 hw1 => ?_)
  have hlen : (mKey l left lang rom sp).1.length ≤ 240 ∧ (mKey l left lang rom sp).2.length ≤ 40 := by
    obtain ⟨ad, ns, σ, z, Z, -, -, ⟨⟨-, h⟩, -⟩, -⟩ := hw1
    exact h
  have hw1' : WP X0 e0 oa tk o om w (cd [] l 0 left lang lang rom rom sp sp (mKey l left lang rom sp).1 key (mKey l left lang rom sp).2 nm recs recs m m) ws1 := hw1.imp (fun ns σ z h => ⟨h.1.1, h.2⟩)
  refine ⟨recvM hw1, ?_⟩
  refine callD (P' := cd [] [] 0 0 lang lang rom rom sp sp (mKey l left lang rom sp).1 (mKey l left lang rom sp).1 (mKey l left lang rom sp).2 (mKey l left lang rom sp).2 recs recs m m) (ans := some (.int (nI (mKey l left lang rom sp).1.length))) (fun _ => ⟨rfl, rfl⟩) hw1' (fun ad ns σ z hP => d_key (mk_okX hE) g1 g2 g3 g4 hP.1 hP.2) (fun ws2 hw2 => ?_)
  exact ⟨fun _ => next _ _ _ ⟨w, [], 0, lang, rom, sp, _, _, recs, m, ⟨by simp, by simp, fun x hx => absurd hx (by simp), g4, ⟨hlen.1, mKey_lt g1 g3⟩, hlen.2, g7, g8⟩, hw2⟩ (by omega) (by omega), fun g => absurd rfl g⟩
end Cs
