/-! Texts; constructors; a key's copy; add -/
section Mk
variable {X : aX} {ws : va_W} {K : va_W → Option Value → Prop}
/-- a text at a: its bytes f, n of them -/
def b_tx (X : aX) (a n : Nat) (f : Nat → Int32) : Prop := b_os X a ∧ b_of X (b_sf 1) (.int 0) a ∧ ∃ va, b_of X (b_sf 0) (.ref va) a ∧ b_ot X .byte va n (fun j => .int (f j))
theorem s_coder (hX : b_okX X) (hc : b_gs X (b_st 0) (.int 1)) {a : Nat} (h : b_of X (b_sf 1) (.int 0) a) (hK : K ws (some (.int 0))) : b_Meets X mJ0_coder_7d493 ws [.ref a] K := by
  refine b_Meets.of hX rJ0_coder_7d493 (al0 := [(0, .ref a)]) rfl rfl (fun AT step => ?_)
  refine step [] 4 ?_
  refine ⟨_, hc, fun g => absurd g (by decide), fun _ => ⟨_, h, ?_⟩⟩
  exact ⟨hK, rfl⟩
theorem s_isL (hX : b_okX X) (hc : b_gs X (b_st 0) (.int 1)) {a : Nat} (h : b_of X (b_sf 1) (.int 0) a) (hK : K ws (some (.int (nI 1)))) : b_Meets X mJ0_isLatin1_aae02 ws [.ref a] K := by
  refine b_Meets.of hX rJ0_isLatin1_aae02 (al0 := [(0, .ref a)]) rfl rfl (fun AT step => ?_)
  refine step [] 4 ?_
  refine ⟨_, hc, fun g => absurd g (by decide), fun _ => ⟨_, h, fun g => absurd rfl g, fun _ => ?_⟩⟩
  exact ⟨hK, Or.inr rfl⟩
theorem s_length (hX : b_okX X) (hc : b_gs X (b_st 0) (.int 1)) {a n : Nat} {f : Nat → Int32} (h : b_tx X a n f) (hK : K ws (some (.int (nI n)))) : b_Meets X mJ0_length_8abf5 ws [.ref a] K := by
  obtain ⟨h0, h1, va, h2, h3⟩ := h
  refine b_Meets.of hX rJ0_length_8abf5 (al0 := [(0, .ref a)]) rfl rfl (fun AT step => ?_)
  refine step [] 4 ?_
  refine ⟨_, h2, n, Or.inr (Or.inl ⟨_, _, h3⟩), h0, ?_⟩
  refine s_coder hX hc h1 ?_
  refine ⟨?_, trivial⟩
  rw [sb_shr0]
  exact hK
theorem s_chk (hX : b_okX X) (hf : ∃ v, (v = .null ∨ ∃ a, v = .ref a) ∧ b_gs X (b_st 2) v) {i n : Nat} (h : i < n) (hn : n < 2147483648) (hK : K ws none) : b_Meets X mJ0_checkIndex_df160 ws [.int (nI i), .int (nI n)] K := by
  obtain ⟨v, hv, hg⟩ := hf
  refine b_Meets.of hX rJ0_checkIndex_df160 (al0 := [(0, .int (nI i)), (1, .int (nI n))]) rfl rfl (fun AT step => ?_)
  refine step [] 4 ?_
  refine ⟨v, hg, ?_⟩
  refine j_chk hX hv h hn ?_
  exact ⟨hK, trivial⟩
theorem s_charAt (hX : b_okX X) (hc : b_gs X (b_st 0) (.int 1)) (hf : ∃ v, (v = .null ∨ ∃ a, v = .ref a) ∧ b_gs X (b_st 2) v) {a n i b : Nat} {f : Nat → Int32} (h : b_tx X a n f) (hi : i < n) (hn : n < 100) (hb : f i = nI b) (hb2 : b < 128) (hK : K ws (some (.int (nI b)))) : b_Meets X mJ0_charAt_5068e ws [.ref a, .int (nI i)] K := by
  obtain ⟨h0, h1, va, h2, h3⟩ := h
  have e1 : ∀ b, b < 128 → (((nI b &&& nI 255).toUInt32 % 65536).toInt32 = nI b ∧ narrow .char (.int (nI b)) = .int (nI b)) := by decide +kernel
  refine b_Meets.of hX rJ0_charAt_5068e (al0 := [(0, .ref a), (1, .int (nI i))]) rfl rfl (fun AT step => ?_)
  refine step [] 4 ?_
  refine ⟨h0, ?_⟩
  refine s_isL hX hc h1 ?_
  refine ⟨fun g => absurd g (by decide), fun _ => ⟨_, h2, ?_⟩⟩
  refine b_Meets.of hX rJ1_charAt_3b067 (al0 := [(0, .ref va), (1, .int (nI i))]) rfl rfl (fun AT2 step2 => ?_)
  refine step2 [] 4 ?_
  refine ⟨n, Or.inr (Or.inl ⟨_, _, h3⟩), ?_⟩
  refine s_chk hX hf hi (by omega) ?_
  refine ⟨n, f, h3, i, ⟨hi, by omega, rfl⟩, ?_⟩
  dsimp only
  rw [hb]
  refine ⟨⟨?_, ?_⟩, ?_⟩
  · show K ws (some (.int ((nI b &&& nI 255).toUInt32 % 65536).toInt32))
    rw [(e1 b hb2).1]
    exact hK
  · show narrow .char (.int ((nI b &&& nI 255).toUInt32 % 65536).toInt32) = _
    rw [(e1 b hb2).1]
    exact (e1 b hb2).2
  · show narrow .char (.int ((nI b &&& nI 255).toUInt32 % 65536).toInt32) = _
    rw [(e1 b hb2).1]
    exact (e1 b hb2).2
def b_z : (Nat → Int32) ⊕ (Nat → Int64) ⊕ (Nat → UInt32) ⊕ (Nat → UInt64) ⊕ (Nat → Option Nat) := .inl fun _ => 0
theorem n_title (hX : b_okX X) {o : Nat} (hK : ∀ a, K ((a, .inl (X.2.2.1 1, 80, b_z)) :: (o, .inr (8, [.ref a, .int 0, .int 0])) :: ws) none) : b_Meets X mX5_init ((o, .inr (8, b_df 8)) :: ws) [.ref o] K := by
  refine b_Meets.of hX rX5_init (al0 := [(0, .ref o)]) rfl rfl (fun AT step => ?_)
  refine step [] 4 ?_
  refine ⟨80, ⟨rfl, by decide⟩, ⟨by decide, by decide⟩, fun a => ⟨1, _, rfl, Nat.le_of_ble_eq_true rfl, ?_⟩⟩
  exact ⟨hK a, trivial⟩
theorem n_marks (hX : b_okX X) {o : Nat} (hK : ∀ a, K ((a, .inl (X.2.2.1 3, 127, b_z)) :: (o, .inr (5, [.ref a])) :: ws) none) : b_Meets X mX2_init ((o, .inr (5, b_df 5)) :: ws) [.ref o] K := by
  refine b_Meets.of hX rX2_init (al0 := [(0, .ref o)]) rfl rfl (fun AT step => ?_)
  refine step [] 4 ?_
  refine ⟨127, ⟨rfl, by decide⟩, ⟨by decide, by decide⟩, fun a => ⟨1, _, rfl, Nat.le_of_ble_eq_true rfl, ?_⟩⟩
  exact ⟨hK a, trivial⟩
theorem n_words (hX : b_okX X) {o : Nat} (hK : ∀ a b, K ((b, .inl (X.2.2.1 2, 40, b_z)) :: (a, .inl (X.2.2.1 1, 80, b_z)) :: (o, .inr (9, [.ref a, .ref b, .int 0, .int 0])) :: ws) none) : b_Meets X mX6_init ((o, .inr (9, b_df 9)) :: ws) [.ref o] K := by
  refine b_Meets.of hX rX6_init (al0 := [(0, .ref o)]) rfl rfl (fun AT step => ?_)
  refine step [] 4 ?_
  refine ⟨80, ⟨rfl, by decide⟩, ⟨by decide, by decide⟩, fun a => ⟨1, _, rfl, Nat.le_of_ble_eq_true rfl, ?_⟩⟩
  refine ⟨40, ⟨rfl, by decide⟩, ⟨by decide, by decide⟩, fun b => ⟨2, _, rfl, Nat.le_of_ble_eq_true rfl, ?_⟩⟩
  exact ⟨hK a b, trivial⟩
theorem n_numbers (hX : b_okX X) {o : Nat} (hK : ∀ a b d, K ((d, .inl (X.2.2.1 2, 40, b_z)) :: (b, .inl (X.2.2.1 3, 40, b_z)) :: (a, .inl (X.2.2.1 2, 40, b_z)) :: (o, .inr (6, [.ref a, .ref b, .ref d, .int 0])) :: ws) none) : b_Meets X mX3_init ((o, .inr (6, b_df 6)) :: ws) [.ref o] K := by
  refine b_Meets.of hX rX3_init (al0 := [(0, .ref o)]) rfl rfl (fun AT step => ?_)
  refine step [] 4 ?_
  refine ⟨40, ⟨rfl, by decide⟩, ⟨by decide, by decide⟩, fun a => ⟨1, _, rfl, Nat.le_of_ble_eq_true rfl, ?_⟩⟩
  refine ⟨40, ⟨rfl, by decide⟩, ⟨by decide, by decide⟩, fun b => ⟨2, _, rfl, Nat.le_of_ble_eq_true rfl, ?_⟩⟩
  refine ⟨40, ⟨rfl, by decide⟩, ⟨by decide, by decide⟩, fun d => ⟨3, _, rfl, Nat.le_of_ble_eq_true rfl, ?_⟩⟩
  exact ⟨hK a b d, trivial⟩
theorem n_reader (hX : b_okX X) {o w : Nat} (hK : K ((o, .inr (7, [.ref w, .int 0, .int 0])) :: ws) none) : b_Meets X mX4_init ((o, .inr (7, b_df 7)) :: ws) [.ref o, .ref w] K := by
  refine b_Meets.of hX rX4_init (al0 := [(0, .ref o), (1, .ref w)]) rfl rfl (fun AT step => ?_)
  refine step [] 4 ?_
  refine ⟨0, _, rfl, Nat.le_of_ble_eq_true rfl, ?_⟩
  exact ⟨hK, trivial⟩
theorem n_keyrow (hX : b_okX X) {o b : Nat} {n : Int32} {x : Nat × va_E} (hK : K (x :: (o, .inr (4, [.ref b, .int n])) :: ws) none) : b_Meets X mX1_init (x :: (o, .inr (4, b_df 4)) :: ws) [.ref o, .ref b, .int n] K := by
  refine b_Meets.of hX rX1_init (al0 := [(0, .ref o), (1, .ref b), (2, .int n)]) rfl rfl (fun AT step => ?_)
  refine step [] 4 ?_
  refine ⟨1, _, rfl, Nat.le_of_ble_eq_true rfl, 1, _, rfl, Nat.le_of_ble_eq_true rfl, ?_⟩
  exact ⟨hK, trivial⟩
theorem n_entry (hX : b_okX X) {o b : Nat} {n r : Int32} {x y : Nat × va_E} (hK : K (x :: y :: (o, .inr (3, [.int n, .int r, .ref b])) :: ws) none) : b_Meets X mX0_init (x :: y :: (o, .inr (3, b_df 3)) :: ws) [.ref o, .int n, .int r, .ref b] K := by
  refine b_Meets.of hX rX0_init (al0 := [(0, .ref o), (1, .int n), (2, .int r), (3, .ref b)]) rfl rfl (fun AT step => ?_)
  refine step [] 4 ?_
  refine ⟨2, _, rfl, Nat.le_of_ble_eq_true rfl, 2, _, rfl, Nat.le_of_ble_eq_true rfl, 2, _, rfl, Nat.le_of_ble_eq_true rfl, ?_⟩
  exact ⟨hK, trivial⟩
/-- the cells of a new FilingOrder o -/
def b_new7 (X : aX) (e0 o : Nat) (a : Nat → Nat) : va_W := [(a 15, .inr (2, [.int (nI 0), .ref e0, .int 0])), (a 14, .inr (2, [.int (nI 0), .ref e0, .int 0])),
  (a 13, .inl (X.2.2.1 2, 40, b_z)), (a 12, .inl (X.2.2.1 3, 40, b_z)), (a 11, .inl (X.2.2.1 2, 40, b_z)), (a 10, .inr (6, [.ref (a 11), .ref (a 12), .ref (a 13), .int 0])),
  (a 9, .inl (X.2.2.1 0, 240, b_z)), (a 8, .inr (4, [.ref (a 9), .int (nI 0)])), (a 7, .inr (7, [.ref (a 4), .int 0, .int 0])),
  (a 6, .inl (X.2.2.1 2, 40, b_z)), (a 5, .inl (X.2.2.1 1, 80, b_z)), (a 4, .inr (9, [.ref (a 5), .ref (a 6), .int 0, .int 0])),
  (a 3, .inl (X.2.2.1 3, 127, b_z)), (a 2, .inr (5, [.ref (a 3)])), (a 1, .inl (X.2.2.1 1, 80, b_z)), (a 0, .inr (8, [.ref (a 1), .int 0, .int 0])),
  (o, .inr (10, [.ref (a 0), .ref (a 2), .ref (a 4), .ref (a 7), .ref (a 8), .ref (a 10), .ref (a 14), .ref (a 15), .int (nI 0), .int (nI 0)]))]
theorem n_order (hX : b_okX X) {e0 : Nat} (h1 : b_gs X (b_st 1) (.ref e0)) {o : Nat} (hK : ∀ a : Nat → Nat, K (b_new7 X e0 o a ++ ws) none) : b_Meets X mX7_init ((o, .inr (10, b_df 10)) :: ws) [.ref o] K := by
  refine b_Meets.of hX rX7_init (al0 := [(0, .ref o)]) rfl rfl (fun AT step => ?_)
  refine step [] 4 ?_
  refine ⟨⟨by decide, by decide⟩, fun a0 => ⟨⟨by decide, by decide⟩, ?_⟩⟩
  refine n_title hX (fun a1 => ⟨2, _, rfl, Nat.le_of_ble_eq_true rfl, ?_⟩)
  refine ⟨⟨by decide, by decide⟩, fun a2 => ⟨⟨by decide, by decide⟩, ?_⟩⟩
  refine n_marks hX (fun a3 => ⟨4, _, rfl, Nat.le_of_ble_eq_true rfl, ?_⟩)
  refine ⟨⟨by decide, by decide⟩, fun a4 => ⟨⟨by decide, by decide⟩, ?_⟩⟩
  refine n_words hX (fun a5 a6 => ⟨7, _, rfl, Nat.le_of_ble_eq_true rfl, ?_⟩)
  refine ⟨⟨by decide, by decide⟩, fun a7 => ⟨8, _, _, rfl, rfl, ?_⟩⟩
  refine n_reader hX ?_
  refine ⟨8, _, rfl, Nat.le_of_ble_eq_true rfl, ?_⟩
  refine ⟨⟨by decide, by decide⟩, fun a8 => ⟨240, ⟨rfl, by decide⟩, ⟨by decide, by decide⟩, fun a9 => ?_⟩⟩
  refine n_keyrow hX ?_
  refine ⟨10, _, rfl, Nat.le_of_ble_eq_true rfl, ?_⟩
  refine ⟨⟨by decide, by decide⟩, fun a10 => ⟨⟨by decide, by decide⟩, ?_⟩⟩
  refine n_numbers hX (fun a11 a12 a13 => ⟨14, _, rfl, Nat.le_of_ble_eq_true rfl, ?_⟩)
  refine ⟨⟨by decide, by decide⟩, fun a14 => ?_⟩
  refine j_init hX h1 ⟨15, _, rfl, Nat.le_of_ble_eq_true rfl, ?_⟩
  refine ⟨⟨by decide, by decide⟩, fun a15 => ?_⟩
  refine j_init hX h1 ⟨16, _, rfl, Nat.le_of_ble_eq_true rfl, ?_⟩
  refine ⟨16, _, rfl, Nat.le_of_ble_eq_true rfl, 16, _, rfl, Nat.le_of_ble_eq_true rfl, ?_⟩
  refine ⟨Or.inl rfl, ?_⟩
  exact ⟨hK (fun i => [a0, a1, a2, a3, a4, a5, a6, a7, a8, a9, a10, a11, a12, a13, a14, a15].getD i 0), trivial⟩
def b_new8 (X : aX) (o : Nat) (a : Nat → Nat) : va_W := [(a 11, .inl (X.2.2.1 2, 60, b_z)), (a 10, .inl (X.2.2.1 2, 61, b_z)), (a 9, .inl (X.2.2.1 2, 61, b_z)), (a 8, .inl (X.2.2.1 0, 24400, b_z)), (a 7, .inl (X.2.2.1 2, 80, b_z)), (a 6, .inl (X.2.2.1 2, 80, b_z)), (a 5, .inl (X.2.2.1 2, 80, b_z)), (a 4, .inl (X.2.2.1 0, 400, b_z)), (a 3, .inl (X.2.2.1 2, 82, b_z)), (a 2, .inl (X.2.2.1 0, 80, b_z)), (a 1, .inl (X.2.2.1 3, 127, b_z)), (a 0, .inl (X.2.2.1 0, 80, b_z)),
  (o, .inr (11, [.int 0, .ref (a 0), .int 0, .int 0, .int 0, .int 0, .ref (a 1), .ref (a 2), .ref (a 3), .int 0, .ref (a 4), .int 0, .ref (a 5), .ref (a 6), .ref (a 7), .int 0, .int 0, .ref (a 8), .ref (a 9), .ref (a 10), .ref (a 11), .int 0, .int 0]))]
theorem n_model (hX : b_okX X) {o : Nat} (hK : ∀ a : Nat → Nat, K (b_new8 X o a ++ ws) none) : b_Meets X mX8_init ((o, .inr (11, b_df 11)) :: ws) [.ref o] K := by
  refine b_Meets.of hX rX8_init (al0 := [(0, .ref o)]) rfl rfl (fun AT step => ?_)
  refine step [] 4 ?_
  refine ⟨80, ⟨rfl, by decide⟩, ⟨by decide, by decide⟩, fun a0 => ⟨1, _, rfl, Nat.le_of_ble_eq_true rfl, ?_⟩⟩
  refine ⟨127, ⟨rfl, by decide⟩, ⟨by decide, by decide⟩, fun a1 => ⟨2, _, rfl, Nat.le_of_ble_eq_true rfl, ?_⟩⟩
  refine ⟨80, ⟨rfl, by decide⟩, ⟨by decide, by decide⟩, fun a2 => ⟨3, _, rfl, Nat.le_of_ble_eq_true rfl, ?_⟩⟩
  refine ⟨82, ⟨rfl, by decide⟩, ⟨by decide, by decide⟩, fun a3 => ⟨4, _, rfl, Nat.le_of_ble_eq_true rfl, ?_⟩⟩
  refine ⟨400, ⟨rfl, by decide⟩, ⟨by decide, by decide⟩, fun a4 => ⟨5, _, rfl, Nat.le_of_ble_eq_true rfl, ?_⟩⟩
  refine ⟨80, ⟨rfl, by decide⟩, ⟨by decide, by decide⟩, fun a5 => ⟨6, _, rfl, Nat.le_of_ble_eq_true rfl, ?_⟩⟩
  refine ⟨80, ⟨rfl, by decide⟩, ⟨by decide, by decide⟩, fun a6 => ⟨7, _, rfl, Nat.le_of_ble_eq_true rfl, ?_⟩⟩
  refine ⟨80, ⟨rfl, by decide⟩, ⟨by decide, by decide⟩, fun a7 => ⟨8, _, rfl, Nat.le_of_ble_eq_true rfl, ?_⟩⟩
  refine ⟨24400, ⟨rfl, by decide⟩, ⟨by decide, by decide⟩, fun a8 => ⟨9, _, rfl, Nat.le_of_ble_eq_true rfl, ?_⟩⟩
  refine ⟨61, ⟨rfl, by decide⟩, ⟨by decide, by decide⟩, fun a9 => ⟨10, _, rfl, Nat.le_of_ble_eq_true rfl, ?_⟩⟩
  refine ⟨61, ⟨rfl, by decide⟩, ⟨by decide, by decide⟩, fun a10 => ⟨11, _, rfl, Nat.le_of_ble_eq_true rfl, ?_⟩⟩
  refine ⟨60, ⟨rfl, by decide⟩, ⟨by decide, by decide⟩, fun a11 => ⟨12, _, rfl, Nat.le_of_ble_eq_true rfl, ?_⟩⟩
  exact ⟨hK (fun i => [a0, a1, a2, a3, a4, a5, a6, a7, a8, a9, a10, a11].getD i 0), trivial⟩
end Mk
