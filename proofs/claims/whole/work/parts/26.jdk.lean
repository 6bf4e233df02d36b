/-! Contracts may be weakened; the lists' methods -/
theorem Met.conseq {l : Launch} {y : MethodName} {ws : List Cond} {rm : Room} {Pc' : Array Value → State → Prop} {Qc' : Array Value → State → Outcome → State → Prop} {mc ms : Nat} {free : Addr → Prop}
    (h : ∀ a s, Pc' a s → ∃ Pc0 : Array Value → State → Prop, ∃ Qc0 : Array Value → State → Outcome → State → Prop, Met l y ws rm Pc0 Qc0 mc ms free ∧ Pc0 a s ∧ ∀ o t, Qc0 a s o t → Qc' a s o t) : Met l y ws rm Pc' Qc' mc ms free := by
  intro p e h1 h2 h3 s m args below h4 h5 hP hK
  obtain ⟨P0, Q0, hM, hp, hq⟩ := h args s hP
  obtain ⟨n, o, g1, g2, g3, g4, g5⟩ := hM p e h1 h2 h3 s m args below h4 h5 hp hK
  exact ⟨n, o, g1, g2, g3, hq _ _ g4, g5⟩
theorem b_Meets.sub {X : aX} {k : aM} {ws : va_W} {av : List Value} {K1 K : va_W → Option Value → Prop} (h : b_Meets X k ws av K1) (hK : ∀ ws1 r, K1 ws1 r → ∃ ws2 t : va_W, (ws2 ++ t).Perm ws1 ∧ K ws2 r) : b_Meets X k ws av K := by
  refine Met.conseq (fun a s hP => ⟨_, _, h, hP, fun o t hQ => ?_⟩)
  obtain ⟨⟨ws1, r, h1, h2, h3, h4⟩, h5⟩ := hQ
  obtain ⟨ws2, tt, h6, h7⟩ := hK ws1 r h2
  have g1 := h3.pm h6.symm
  have g2 := va_D.nd.mp (h4.pm h6.symm)
  refine ⟨⟨ws2, r, h1, h7, fun i q hi => ?_, va_D.nd.mpr ⟨?_, fun q hq => g2.2 q (List.mem_append_left _ hq)⟩⟩, h5⟩
  · exact g1 i q (by rw [List.getElem?_append_left (List.getElem?_eq_some_iff.mp hi).1]; exact hi)
  · have g3 := g2.1
    rw [List.map_append] at g3
    exact (List.nodup_append.mp g3).1
theorem b_Meets.pre {X : aX} {k : aM} {ws ws' t : va_W} {av : List Value} {K : va_W → Option Value → Prop} (hp : (ws' ++ t).Perm ws) (h : b_Meets X k ws' av K) : b_Meets X k ws av K := by
  refine Met.conseq (fun a s hP => ⟨_, _, h, ?_, fun o t hQ => hQ⟩)
  obtain ⟨h1, h2, h3, h4, h5, h6⟩ := hP
  have g1 := h5.pm hp.symm
  have g2 := va_D.nd.mp (h6.pm hp.symm)
  refine ⟨h1, h2, h3, h4, fun i q hi => ?_, va_D.nd.mpr ⟨?_, fun q hq => g2.2 q (List.mem_append_left _ hq)⟩⟩
  · exact g1 i q (by rw [List.getElem?_append_left (List.getElem?_eq_some_iff.mp hi).1]; exact hi)
  · have g3 := g2.1
    rw [List.map_append] at g3
    exact (List.nodup_append.mp g3).1
section Jm
variable {X : aX} {ws : va_W} {K : va_W → Option Value → Prop}
theorem j_chk (hX : b_okX X) {i n : Nat} {v : Value} (hv : v = .null ∨ ∃ a, v = .ref a) (h : i < n) (hn : n < 2147483648) (hK : K ws (some (.int (nI i)))) : b_Meets X mJ3_checkIndex_8e157 ws [.int (nI i), .int (nI n), v] K := by
  have hl : Nat.ble (lg_sl [.int (nI i), .int (nI n), v]).length mJ3_checkIndex_8e157.2.2.1 = true := by rcases hv with rfl | ⟨a, rfl⟩ <;> rfl
  refine b_Meets.of hX rJ3_checkIndex_8e157 (al0 := [(0, .int (nI i)), (1, .int (nI n)), (2, v)]) rfl hl (fun AT step => ?_)
  refine step [] 4 ?_
  refine ⟨fun g => absurd g (nI_pos (by omega)), fun g => ⟨fun g2 => ⟨hK, trivial⟩, fun g2 => absurd (nI_lt h hn) g2⟩⟩
theorem j_ochk (hX : b_okX X) {i n : Nat} (h : i < n) (hn : n < 2147483648) (hK : K ws (some (.int (nI i)))) : b_Meets X mJ15_checkIndex_7cf53 ws [.int (nI i), .int (nI n)] K := by
  refine b_Meets.of hX rJ15_checkIndex_7cf53 (al0 := [(0, .int (nI i)), (1, .int (nI n))]) rfl rfl (fun AT step => ?_)
  refine step [] 4 ?_
  refine j_chk hX (Or.inl rfl) h hn ?_
  exact ⟨hK, trivial⟩
theorem j_size (hX : b_okX X) {o e : Nat} {mo sz : Int32} (hK : K ((o, .inr (2, [.int mo, .ref e, .int sz])) :: ws) (some (.int sz))) : b_Meets X mJx4a65c_size_8abf5 ((o, .inr (2, [.int mo, .ref e, .int sz])) :: ws) [.ref o] K := by
  refine b_Meets.of hX rJx4a65c_size_8abf5 (al0 := [(0, .ref o)]) rfl rfl (fun AT step => ?_)
  refine step [] 4 ?_
  exact ⟨0, _, _, rfl, rfl, hK, trivial⟩
theorem j_edata (hX : b_okX X) {o e cap i a : Nat} {mo sz : Int32} {f : Nat → Option Nat} (hi : i < cap) (hc : cap ≤ 100000) (hf : f i = some a)
    (hK : K ((o, .inr (2, [.int mo, .ref e, .int sz])) :: (e, .inl (X.2.2.1 4, cap, b_ra f)) :: ws) (some (.ref a))) : b_Meets X mJx4a65c_elementData_915e3 ((o, .inr (2, [.int mo, .ref e, .int sz])) :: (e, .inl (X.2.2.1 4, cap, b_ra f)) :: ws) [.ref o, .int (nI i)] K := by
  refine b_Meets.of hX rJx4a65c_elementData_915e3 (al0 := [(0, .ref o), (1, .int (nI i))]) rfl rfl (fun AT step => ?_)
  refine step [] 4 ?_
  refine ⟨0, _, _, rfl, rfl, 1, cap, f, rfl, i, ⟨hi, by omega, rfl⟩, ?_⟩
  dsimp only
  rw [hf]
  exact ⟨hK, trivial⟩
theorem j_get (hX : b_okX X) {o e cap i a sz : Nat} {mo : Int32} {f : Nat → Option Nat} (hi : i < sz) (hs : sz ≤ cap) (hc : cap ≤ 100000) (hf : f i = some a)
    (hK : K ((o, .inr (2, [.int mo, .ref e, .int (nI sz)])) :: (e, .inl (X.2.2.1 4, cap, b_ra f)) :: ws) (some (.ref a))) : b_Meets X mJx4a65c_get_915e3 ((o, .inr (2, [.int mo, .ref e, .int (nI sz)])) :: (e, .inl (X.2.2.1 4, cap, b_ra f)) :: ws) [.ref o, .int (nI i)] K := by
  refine b_Meets.of hX rJx4a65c_get_915e3 (al0 := [(0, .ref o), (1, .int (nI i))]) rfl rfl (fun AT step => ?_)
  refine step [] 4 ?_
  refine ⟨0, _, _, rfl, rfl, ?_⟩
  refine j_ochk hX hi (by omega) ?_
  refine ⟨⟨0, _, rfl⟩, ?_⟩
  refine j_edata hX (by omega) hc hf ?_
  exact ⟨hK, trivial⟩
theorem j_newlen (hX : b_okX X) {a b c : Nat} {x y w : Int32} (hx : x = nI a) (hy : y = nI b) (hw : w = nI c) (h : a + b + c ≤ 100000) (h0 : 0 < a) (hK : K ws (some (.int (nI (a + max b c))))) : b_Meets X mJ8_newLength_cabcc ws [.int x, .int y, .int w] K := by
  subst hx hy hw
  refine b_Meets.of hX rJ8_newLength_cabcc (al0 := [(0, .int (nI a)), (1, .int (nI b)), (2, .int (nI c))]) rfl rfl (fun AT step => ?_)
  refine step [] 4 ?_
  have e1 : nI a + (if nI b < nI c then nI c else nI b) = nI (a + max b c) := by
    by_cases hbc : b < c
    · rw [if_pos (nI_lt hbc (by omega)), nI_add, Nat.max_eq_right (by omega)]
    · rw [if_neg (nI_nlt (by omega) (by omega)), nI_add, Nat.max_eq_left (by omega)]
  have hm : max b c ≤ b + c := by omega
  have h6 : (2147483639 : Int32) = nI 2147483639 := by decide
  refine ⟨fun g => ?_, fun g => ⟨fun g2 => ?_, fun g2 => ?_⟩⟩
  · rw [e1] at g
    have g : nI (a + max b c) ≤ nI 0 := g
    rw [nI_leI (by omega) (by omega)] at g
    omega
  · rw [e1, h6, nI_ltI (by omega) (by omega)] at g2
    omega
  · refine ⟨?_, trivial⟩
    rw [e1]
    exact hK
theorem j_copy3 (hX : b_okX X) {mi : Nat} (hmi : b_om X mi) {q0 e cap n : Nat} {f : Nat → Option Nat} (he : ws[q0]? = some (e, .inl (X.2.2.1 4, cap, b_ra f))) (hcap : cap ≤ n) (hn : n ≤ 120) (hel : ∀ i, i < cap → ∀ y : Nat, f i = some y → ∃ (qk : Nat) (vs : List Value), ws[qk]? = some (y, .inr (3, vs)))
    (hK : ∀ b : Nat, K ((b, .inl (X.2.2.1 4, n, b_ra (va_cpy f (fun _ => none) 0 0 cap))) :: ws) (some (.ref b))) : b_Meets X mJ7_copyOf_6403c ws [.ref e, .int (nI n), .ref mi] K := by
  refine b_Meets.of hX rJ7_copyOf_6403c (al0 := [(0, .ref e), (1, .int (nI n)), (2, .ref mi)]) rfl rfl (fun AT step => ?_)
  refine step [] 4 ?_
  refine ⟨mi, hmi, fun g => absurd rfl g, fun _ => ⟨n, ⟨rfl, by omega⟩, ⟨⟨by decide, by show 0 + n ≤ 120; omega⟩, fun b => ?_⟩⟩⟩
  have e1 : (if nI n < nI cap then nI n else nI cap) = nI cap := by
    rw [if_neg (nI_nlt hcap (by omega))]
  refine ⟨cap, Or.inl ⟨q0 + 1, 4, _, he, by decide⟩, cap, 0, 0, q0 + 1, 0, cap, n, f, _, ⟨e1, rfl, rfl, by omega, by omega, by omega, by omega⟩, he, rfl, ?_, ?_⟩
  · intro i hi y hy
    rw [Nat.zero_add] at hy
    obtain ⟨qk, vs, h1⟩ := hel i hi y hy
    exact ⟨qk + 1, vs, h1⟩
  · exact ⟨hK b, trivial⟩
theorem j_copy2 (hX : b_okX X) {mi : Nat} (hmi : b_om X mi) {q0 e cap n : Nat} {f : Nat → Option Nat} (he : ws[q0]? = some (e, .inl (X.2.2.1 4, cap, b_ra f))) (hcap : cap ≤ n) (hn : n ≤ 120) (hel : ∀ i, i < cap → ∀ y : Nat, f i = some y → ∃ (qk : Nat) (vs : List Value), ws[qk]? = some (y, .inr (3, vs)))
    (hK : ∀ b : Nat, K ((b, .inl (X.2.2.1 4, n, b_ra (va_cpy f (fun _ => none) 0 0 cap))) :: ws) (some (.ref b))) : b_Meets X mJ7_copyOf_1904c ws [.ref e, .int (nI n)] K := by
  refine b_Meets.of hX rJ7_copyOf_1904c (al0 := [(0, .ref e), (1, .int (nI n))]) rfl rfl (fun AT step => ?_)
  refine step [] 4 ?_
  refine ⟨mi, q0, cap, f, hmi, he, ?_⟩
  refine ⟨⟨by decide, by decide⟩, ?_⟩
  refine j_copy3 hX hmi he hcap hn hel (fun b => ?_)
  exact ⟨hK b, trivial⟩
theorem j_range (hX : b_okX X) {o e i sz : Nat} {mo : Int32} (hi : i ≤ sz) (hs : sz ≤ 100000) (hK : K ((o, .inr (2, [.int mo, .ref e, .int (nI sz)])) :: ws) none) : b_Meets X mJx4a65c_rangeCheckForAdd_d00df ((o, .inr (2, [.int mo, .ref e, .int (nI sz)])) :: ws) [.ref o, .int (nI i)] K := by
  refine b_Meets.of hX rJx4a65c_rangeCheckForAdd_d00df (al0 := [(0, .ref o), (1, .int (nI i))]) rfl rfl (fun AT step => ?_)
  refine step [] 4 ?_
  refine ⟨0, _, _, rfl, rfl, fun g => absurd g (nI_nlt hi (by omega)), fun g => ⟨fun g2 => ⟨hK, trivial⟩, fun g2 => absurd (nI_pos' (by omega)) g2⟩⟩
/-- grow: the array is full -/
theorem j_growA (hX : b_okX X) {mi : Nat} (hmi : b_om X mi) {o e cap : Nat} {mo x : Int32} (hx : x = nI (cap + 1)) {f : Nat → Option Nat} (h0 : 0 < cap) (hc : cap ≤ 60) (hel : ∀ i, i < cap → ∀ y : Nat, f i = some y → ∃ (qk : Nat) (vs : List Value), ws[qk]? = some (y, .inr (3, vs)))
    (hK : ∀ (b n : Nat) (f' : Nat → Option Nat), cap < n → n ≤ 120 → (∀ i, i < cap → f' i = f i) → K ((b, .inl (X.2.2.1 4, n, b_ra f')) :: (o, .inr (2, [.int mo, .ref b, .int (nI cap)])) :: (e, .inl (X.2.2.1 4, cap, b_ra f)) :: ws) (some (.ref b))) :
    b_Meets X mJx4a65c_grow_92f84 ((o, .inr (2, [.int mo, .ref e, .int (nI cap)])) :: (e, .inl (X.2.2.1 4, cap, b_ra f)) :: ws) [.ref o, .int x] K := by
  subst hx
  refine b_Meets.of hX rJx4a65c_grow_92f84 (al0 := [(0, .ref o), (1, .int (nI (cap + 1)))]) rfl rfl (fun AT step => ?_)
  refine step [(20, [0, 1, 2])] 4 ?_
  have e1 : nI (cap + 1) - nI cap = nI 1 := by rw [pk_sub (by omega)]; congr 1; omega
  have e2 : nI cap >>> (nI 1 &&& 31) = nI (cap / 2) := pk_shrN (by omega) _ 1 (by decide)
  refine ⟨0, _, _, rfl, rfl, cap, Or.inl ⟨1, 4, _, rfl, by decide⟩, fun g => ?_, fun g => absurd (nI_lt h0 (by omega)) g⟩
  refine step [] 4 ?_
  refine j_newlen (a := cap) (b := 1) (c := cap / 2) hX rfl e1 e2 (by omega) h0 ?_
  refine ⟨0, _, _, rfl, rfl, ⟨by decide, by decide⟩, ?_⟩
  refine j_copy2 hX hmi (q0 := 1) rfl (by omega) (by omega) (fun i hi y hy => ?_) (fun b => ?_)
  · obtain ⟨qk, vs, h1⟩ := hel i hi y hy
    exact ⟨qk + 2, vs, h1⟩
  · refine ⟨1, _, rfl, Nat.le_of_ble_eq_true rfl, ?_⟩
    refine ⟨hK b (cap + max 1 (cap / 2)) _ (by omega) (by omega) (fun i hi => ?_), trivial⟩
    rw [pk_cpy_in (by omega) (by omega)]
    congr 1
    omega
/-- grow: the first of all -/
theorem j_growB (hX : b_okX X) {o e : Nat} {mo : Int32} (h1 : b_gs X (b_st 1) (.ref e)) (h2 : ∃ f, b_ot X (.object "java/lang/Object") e 0 f)
    (hK : ∀ b : Nat, K ((b, .inl (X.2.2.1 4, 10, b_ra fun _ => none)) :: (o, .inr (2, [.int mo, .ref b, .int (nI 0)])) :: ws) (some (.ref b))) :
    b_Meets X mJx4a65c_grow_92f84 ((o, .inr (2, [.int mo, .ref e, .int (nI 0)])) :: ws) [.ref o, .int (nI 1)] K := by
  obtain ⟨f, h2⟩ := h2
  refine b_Meets.of hX rJx4a65c_grow_92f84 (al0 := [(0, .ref o), (1, .int (nI 1))]) rfl rfl (fun AT step => ?_)
  refine step [] 4 ?_
  refine ⟨0, _, _, rfl, rfl, 0, Or.inr (Or.inl ⟨_, f, h2⟩), fun g => absurd g (by decide), fun g => ⟨0, _, _, rfl, rfl, _, h1, fun _ => ?_, fun g2 => absurd rfl g2⟩⟩
  refine ⟨10, ⟨by decide, by decide⟩, ⟨by decide, by decide⟩, fun b => ?_⟩
  refine ⟨1, _, rfl, Nat.le_of_ble_eq_true rfl, ?_⟩
  exact ⟨hK b, trivial⟩
def b_ent (ws : va_W) (a : Nat) : Prop := ∃ (qk : Nat) (vs : List Value), ws[qk]? = some (a, .inr (3, vs))
def lz1 (X : aX) (e0 e : Nat) (as : List Nat) (Z1 : va_W) : Prop := (as = [] ∧ e = e0 ∧ Z1 = []) ∨ (∃ (cap : Nat) (f : Nat → Option Nat), as.length ≤ cap ∧ 0 < cap ∧ cap ≤ 120 ∧ (∀ i, i < as.length → f i = some (as.getD i 0)) ∧ Z1 = [(e, .inl (X.2.2.1 4, cap, b_ra f))])
/-- a list of these addresses -/
def lz (X : aX) (e0 o : Nat) (as : List Nat) (Z : va_W) : Prop := ∃ (mo : Int32) (e : Nat) (Z1 : va_W), lz1 X e0 e as Z1 ∧ Z = (o, .inr (2, [.int mo, .ref e, .int (nI as.length)])) :: Z1
theorem j_grow (hX : b_okX X) {mi e0 : Nat} (hmi : b_om X mi) (h1 : b_gs X (b_st 1) (.ref e0)) (h2 : ∃ f, b_ot X (.object "java/lang/Object") e0 0 f) {o e : Nat} {mo : Int32} {as : List Nat} {Z1 : va_W} (hlen : as.length ≤ 60)
    (hZ : (as = [] ∧ e = e0 ∧ Z1 = []) ∨ (∃ f : Nat → Option Nat, 0 < as.length ∧ (∀ i, i < as.length → f i = some (as.getD i 0)) ∧ Z1 = [(e, .inl (X.2.2.1 4, as.length, b_ra f))])) (hel : ∀ a ∈ as, b_ent ws a)
    (hK : ∀ (b n : Nat) (f' : Nat → Option Nat), as.length < n → n ≤ 120 → (∀ i, i < as.length → f' i = some (as.getD i 0)) → K ((b, .inl (X.2.2.1 4, n, b_ra f')) :: (o, .inr (2, [.int mo, .ref b, .int (nI as.length)])) :: (Z1 ++ ws)) (some (.ref b))) :
    b_Meets X mJx4a65c_grow_d5877 ((o, .inr (2, [.int mo, .ref e, .int (nI as.length)])) :: (Z1 ++ ws)) [.ref o] K := by
  rcases hZ with ⟨rfl, rfl, rfl⟩ | ⟨f, h0, hf, rfl⟩
  · refine b_Meets.of hX rJx4a65c_grow_d5877 (al0 := [(0, .ref o)]) rfl rfl (fun AT step => ?_)
    refine step [] 4 ?_
    refine ⟨0, _, _, rfl, rfl, ⟨0, _, rfl⟩, ⟨by decide, by decide⟩, ?_⟩
    refine j_growB hX h1 h2 (fun b => ?_)
    exact ⟨hK b 10 _ (by decide) (by decide) (fun i hi => absurd hi (by simp)), trivial⟩
  · refine b_Meets.of hX rJx4a65c_grow_d5877 (al0 := [(0, .ref o)]) rfl rfl (fun AT step => ?_)
    refine step [] 4 ?_
    refine ⟨0, _, _, rfl, rfl, ⟨0, _, rfl⟩, ⟨by decide, by decide⟩, ?_⟩
    refine j_growA hX hmi (nI_add _ 1) h0 hlen (fun i hi y hy => ?_) (fun b n f' g1 g2 g3 => ?_)
    · rw [hf i hi] at hy
      cases hy
      refine hel _ ?_
      have e9 : as.getD i 0 = as[i] := by rw [List.getD_eq_getElem?_getD, List.getElem?_eq_getElem hi]; rfl
      rw [e9]
      exact List.getElem_mem hi
    · exact ⟨hK b n f' g1 g2 (fun i hi => by rw [g3 i hi, hf i hi]), trivial⟩
theorem as_app {as : List Nat} {v : Nat} {f : Nat → Option Nat} (hf : ∀ i, i < as.length → f i = some (as.getD i 0)) (i : Nat) (hi : i < (as ++ [v]).length) : va_up f as.length (some v) i = some ((as ++ [v]).getD i 0) := by
  simp only [List.length_append, List.length_singleton] at hi
  by_cases e : i = as.length
  · subst e
    rw [va_up_self]
    simp
  · rw [va_up_ne _ _ e, hf i (by omega)]
    rw [List.getD_eq_getElem?_getD, List.getD_eq_getElem?_getD, List.getElem?_append_left (by omega)]
theorem j_add3 (hX : b_okX X) {mi e0 : Nat} (hmi : b_om X mi) (h1 : b_gs X (b_st 1) (.ref e0)) (h2 : ∃ f, b_ot X (.object "java/lang/Object") e0 0 f) {o e v : Nat} {mo : Int32} {as : List Nat} {Z1 : va_W} (hlen : as.length < 60)
    (hZ : lz1 X e0 e as Z1) (hel : ∀ a ∈ as, b_ent ws a) (hv : b_ent ws v) (hK : ∀ (ws1 Z' t : va_W), lz X e0 o (as ++ [v]) Z' → (Z' ++ (ws ++ t)).Perm ws1 → K ws1 none) :
    b_Meets X mJx4a65c_add_72be8 ((o, .inr (2, [.int mo, .ref e, .int (nI as.length)])) :: (Z1 ++ ws)) [.ref o, .ref v, .ref e, .int (nI as.length)] K := by
  obtain ⟨qk, vs, hv⟩ := hv
  refine b_Meets.of hX rJx4a65c_add_72be8 (al0 := [(0, .ref o), (1, .ref v), (2, .ref e), (3, .int (nI as.length))]) rfl rfl (fun AT step => ?_)
  by_cases hfull : (as = [] ∧ e = e0 ∧ Z1 = []) ∨ (∃ f : Nat → Option Nat, 0 < as.length ∧ (∀ i, i < as.length → f i = some (as.getD i 0)) ∧ Z1 = [(e, .inl (X.2.2.1 4, as.length, b_ra f))])
  · have hl : b_len X ((o, .inr (2, [.int mo, .ref e, .int (nI as.length)])) :: (Z1 ++ ws)) e as.length := by
      rcases hfull with ⟨rfl, rfl, rfl⟩ | ⟨f, h0, hf, rfl⟩
      · obtain ⟨f, h2⟩ := h2
        exact Or.inr (Or.inl ⟨_, f, h2⟩)
      · exact Or.inl ⟨1, 4, _, rfl, by decide⟩
    refine step [] 4 ?_
    refine ⟨as.length, hl, fun g => absurd rfl g, fun _ => ⟨⟨0, _, rfl⟩, ⟨by decide, by decide⟩, ?_⟩⟩
    refine j_grow hX hmi h1 h2 (by omega) hfull hel (fun b n f' g1 g2 g3 => ?_)
    have hv2 : ((b, Sum.inl (X.2.2.1 4, n, b_ra f')) :: (o, Sum.inr (2, [Value.int mo, Value.ref b, Value.int (nI as.length)])) :: (Z1 ++ ws) : va_W)[Z1.length + qk + 2]? = some (v, .inr (3, vs)) := by
      show (Z1 ++ ws)[Z1.length + qk]? = _
      rw [List.getElem?_append_right (by omega), Nat.add_sub_cancel_left]
      exact hv
    refine ⟨0, n, f', Z1.length + qk + 2, vs, rfl, hv2, as.length, ⟨g1, by omega, rfl⟩, ?_⟩
    refine ⟨1, _, rfl, Nat.le_of_ble_eq_true rfl, ?_⟩
    refine ⟨?_, trivial⟩
    refine hK _ [(o, .inr (2, [.int mo, .ref b, .int (nI as.length + nI 1)])), (b, .inl (X.2.2.1 4, n, b_ra (va_up f' as.length (some v))))] Z1 ⟨mo, b, _, Or.inr ⟨n, _, by simp; omega, by omega, g2, as_app g3, rfl⟩, by simp [nI_add]⟩ ?_
    show List.Perm ((o, _) :: (b, _) :: (ws ++ Z1)) ((b, _) :: (o, _) :: (Z1 ++ ws))
    exact (List.Perm.swap _ _ _).trans ((List.perm_append_comm.cons _).cons _)
  · rcases hZ with hZ | ⟨cap, f, c1, c2, c3, hf, rfl⟩
    · exact absurd (Or.inl hZ) hfull
    · have hlt : as.length < cap := by
        rcases Nat.lt_or_ge as.length cap with h | h
        · exact h
        · have e1 : cap = as.length := by omega
          subst e1
          exact absurd (Or.inr ⟨f, c2, hf, rfl⟩) hfull
      refine step [] 4 ?_
      refine ⟨cap, Or.inl ⟨1, 4, _, rfl, by decide⟩, fun g => ?_, fun g => ?_⟩
      · refine ⟨1, cap, f, qk + 2, vs, rfl, hv, as.length, ⟨hlt, by omega, rfl⟩, ?_⟩
        refine ⟨0, _, rfl, Nat.le_of_ble_eq_true rfl, ?_⟩
        refine ⟨?_, trivial⟩
        refine hK _ [(o, .inr (2, [.int mo, .ref e, .int (nI as.length + nI 1)])), (e, .inl (X.2.2.1 4, cap, b_ra (va_up f as.length (some v))))] [] ⟨mo, e, _, Or.inr ⟨cap, _, by simp; omega, by omega, c3, as_app hf, rfl⟩, by simp [nI_add]⟩ ?_
        rw [List.append_nil]
        exact List.Perm.refl _
      · have := (nI_eq (by omega) (by omega)).mp g
        omega
theorem j_add (hX : b_okX X) {mi e0 : Nat} (hmi : b_om X mi) (h1 : b_gs X (b_st 1) (.ref e0)) (h2 : ∃ f, b_ot X (.object "java/lang/Object") e0 0 f) {o v : Nat} {as : List Nat} {Z : va_W} (hlen : as.length < 60)
    (hZ : lz X e0 o as Z) (hel : ∀ a ∈ as, b_ent ws a) (hv : b_ent ws v) (hK : ∀ Z' : va_W, lz X e0 o (as ++ [v]) Z' → K (Z' ++ ws) (some (.int 1))) :
    b_Meets X mJx4a65c_add_9ea2d (Z ++ ws) [.ref o, .ref v] K := by
  obtain ⟨mo, e, Z1, hZ, rfl⟩ := hZ
  refine b_Meets.sub (K1 := fun ws1 r => r = some (.int 1) ∧ ∃ Z' t : va_W, lz X e0 o (as ++ [v]) Z' ∧ (Z' ++ (ws ++ t)).Perm ws1) ?_ (fun ws1 r h => ?_)
  · refine b_Meets.of hX rJx4a65c_add_9ea2d (al0 := [(0, .ref o), (1, .ref v)]) rfl rfl (fun AT step => ?_)
    refine step [] 4 ?_
    refine ⟨0, _, _, rfl, rfl, 0, _, rfl, Nat.le_of_ble_eq_true rfl, 0, _, _, rfl, rfl, 0, _, _, rfl, rfl, ⟨0, _, rfl⟩, ⟨by decide, by decide⟩, ?_⟩
    refine j_add3 hX hmi h1 h2 hlen hZ hel hv (fun ws1 Z' t g1 g2 => ?_)
    exact ⟨⟨rfl, Z', t, g1, g2⟩, Or.inr rfl⟩
  · obtain ⟨rfl, Z', t, g1, g2⟩ := h
    exact ⟨Z' ++ ws, t, by rw [List.append_assoc]; exact g2, hK Z' g1⟩
theorem as_ins {as : List Nat} {i v : Nat} {f : Nat → Option Nat} (hi : i ≤ as.length) (hf : ∀ j, j < as.length → f j = some (as.getD j 0)) (j : Nat) (hj : j < (as.insertIdx i v).length) :
    va_up (va_cpy f f i (i + 1) (as.length - i)) i (some v) j = some ((as.insertIdx i v).getD j 0) := by
  rw [List.length_insertIdx_of_le_length hi] at hj
  rw [List.getD_eq_getElem?_getD, List.getElem?_insertIdx]
  by_cases e1 : j < i
  · rw [if_pos e1, va_up_ne _ _ (by omega), pk_cpy_out (by omega), hf j (by omega), List.getD_eq_getElem?_getD]
  · rw [if_neg e1]
    by_cases e2 : j = i
    · subst e2
      rw [if_pos rfl, if_pos hi, va_up_self]
      rfl
    · rw [if_neg e2, va_up_ne _ _ e2, pk_cpy_in (by omega) (by omega), show i + (j - (i + 1)) = j - 1 by omega, hf _ (by omega), List.getD_eq_getElem?_getD]
theorem j_ins (hX : b_okX X) {mi e0 : Nat} (hmi : b_om X mi) (h1 : b_gs X (b_st 1) (.ref e0)) (h2 : ∃ f, b_ot X (.object "java/lang/Object") e0 0 f) {o i v : Nat} {as : List Nat} {Z : va_W} (hlen : as.length < 60) (hi : i ≤ as.length)
    (hZ : lz X e0 o as Z) (hel : ∀ a ∈ as, b_ent ws a) (hv : b_ent ws v) (hK : ∀ Z' : va_W, lz X e0 o (as.insertIdx i v) Z' → K (Z' ++ ws) none) :
    b_Meets X mJx4a65c_add_7a177 (Z ++ ws) [.ref o, .int (nI i), .ref v] K := by
  obtain ⟨mo, e, Z1, hZ, rfl⟩ := hZ
  have hli : (as.insertIdx i v).length = as.length + 1 := List.length_insertIdx_of_le_length hi v
  have hsub : nI as.length - nI i = nI (as.length - i) := pk_sub hi
  refine b_Meets.sub (K1 := fun ws1 r => r = none ∧ ∃ Z' t : va_W, lz X e0 o (as.insertIdx i v) Z' ∧ (Z' ++ (ws ++ t)).Perm ws1) ?_ (fun ws1 r h => ?_)
  · obtain ⟨qk, vs, hv⟩ := hv
    refine b_Meets.of hX rJx4a65c_add_7a177 (al0 := [(0, .ref o), (1, .int (nI i)), (2, .ref v)]) rfl rfl (fun AT step => ?_)
    refine step [(5, [0, 1, 2])] 4 ?_
    refine ⟨⟨0, _, rfl⟩, ?_⟩
    refine j_range hX hi (by omega) ?_
    by_cases hfull : (as = [] ∧ e = e0 ∧ Z1 = []) ∨ (∃ f : Nat → Option Nat, 0 < as.length ∧ (∀ i, i < as.length → f i = some (as.getD i 0)) ∧ Z1 = [(e, .inl (X.2.2.1 4, as.length, b_ra f))])
    · have hl : ∀ m : Int32, b_len X ((o, .inr (2, [.int m, .ref e, .int (nI as.length)])) :: (Z1 ++ ws)) e as.length := by
        intro m
        rcases hfull with ⟨rfl, rfl, rfl⟩ | ⟨f, h0, hf, rfl⟩
        · obtain ⟨f, h2⟩ := h2
          exact Or.inr (Or.inl ⟨_, f, h2⟩)
        · exact Or.inl ⟨1, 4, _, rfl, by decide⟩
      refine step [] 4 ?_
      refine ⟨0, _, _, rfl, rfl, 0, _, rfl, Nat.le_of_ble_eq_true rfl, 0, _, _, rfl, rfl, 0, _, _, rfl, rfl, as.length, hl _, fun g => absurd rfl g, fun _ => ⟨⟨0, _, rfl⟩, ⟨by decide, by decide⟩, ?_⟩⟩
      refine j_grow hX hmi h1 h2 (by omega) hfull hel (fun b n f' g1 g2 g3 => ?_)
      have hv2 : ∀ x y : va_E, ((b, x) :: (o, y) :: (Z1 ++ ws) : va_W)[Z1.length + qk + 2]? = some (v, .inr (3, vs)) := by
        intro x y
        show (Z1 ++ ws)[Z1.length + qk]? = _
        rw [List.getElem?_append_right (by omega), Nat.add_sub_cancel_left]
        exact hv
      refine ⟨as.length - i, i + 1, i, 0, 0, n, n, f', f', ⟨hsub, nI_add i 1, rfl, by omega, by omega, by omega, by omega⟩, rfl, rfl, ?_, ?_⟩
      · intro j hj y hy
        rw [g3 _ (by omega)] at hy
        cases hy
        have e9 : as.getD (i + j) 0 = as[i + j]'(by omega) := by rw [List.getD_eq_getElem?_getD, List.getElem?_eq_getElem (by omega)]; rfl
        obtain ⟨q2, v2, h9⟩ := hel _ (List.getElem_mem (show i + j < as.length by omega))
        refine ⟨Z1.length + q2 + 2, v2, ?_⟩
        show (Z1 ++ ws)[Z1.length + q2]? = _
        rw [List.getElem?_append_right (by omega), Nat.add_sub_cancel_left, e9]
        exact h9
      · refine ⟨0, n, _, Z1.length + qk + 2, vs, rfl, hv2 _ _, i, ⟨by omega, by omega, rfl⟩, ?_⟩
        refine ⟨1, _, rfl, Nat.le_of_ble_eq_true rfl, ?_⟩
        refine ⟨⟨rfl, [(o, .inr (2, [.int (mo + nI 1), .ref b, .int (nI as.length + nI 1)])), (b, .inl (X.2.2.1 4, n, b_ra (va_up (va_cpy f' f' i (i + 1) (as.length - i)) i (some v))))], Z1, ⟨mo + nI 1, b, _, Or.inr ⟨n, _, by omega, by omega, g2, as_ins hi g3, rfl⟩, by simp [nI_add, hli]⟩, ?_⟩, trivial⟩
        show List.Perm ((o, _) :: (b, _) :: (ws ++ Z1)) ((b, _) :: (o, _) :: (Z1 ++ ws))
        exact (List.Perm.swap _ _ _).trans ((List.perm_append_comm.cons _).cons _)
    · rcases hZ with hZ | ⟨cap, f, c1, c2, c3, hf, rfl⟩
      · exact absurd (Or.inl hZ) hfull
      · have hlt : as.length < cap := by
          rcases Nat.lt_or_ge as.length cap with h | h
          · exact h
          · have e1 : cap = as.length := by omega
            subst e1
            exact absurd (Or.inr ⟨f, c2, hf, rfl⟩) hfull
        refine step [] 4 ?_
        refine ⟨0, _, _, rfl, rfl, 0, _, rfl, Nat.le_of_ble_eq_true rfl, 0, _, _, rfl, rfl, 0, _, _, rfl, rfl, cap, Or.inl ⟨1, 4, _, rfl, by decide⟩, fun g => ?_, fun g => ?_⟩
        · refine ⟨as.length - i, i + 1, i, 1, 1, cap, cap, f, f, ⟨hsub, nI_add i 1, rfl, by omega, by omega, by omega, by omega⟩, rfl, rfl, ?_, ?_⟩
          · intro j hj y hy
            rw [hf _ (by omega)] at hy
            cases hy
            have e9 : as.getD (i + j) 0 = as[i + j]'(by omega) := by rw [List.getD_eq_getElem?_getD, List.getElem?_eq_getElem (by omega)]; rfl
            obtain ⟨q2, v2, h9⟩ := hel _ (List.getElem_mem (show i + j < as.length by omega))
            refine ⟨q2 + 2, v2, ?_⟩
            rw [e9]
            exact h9
          · refine ⟨1, cap, _, qk + 2, vs, rfl, hv, i, ⟨by omega, by omega, rfl⟩, ?_⟩
            refine ⟨0, _, rfl, Nat.le_of_ble_eq_true rfl, ?_⟩
            refine ⟨⟨rfl, [(o, .inr (2, [.int (mo + nI 1), .ref e, .int (nI as.length + nI 1)])), (e, .inl (X.2.2.1 4, cap, b_ra (va_up (va_cpy f f i (i + 1) (as.length - i)) i (some v))))], [], ⟨mo + nI 1, e, _, Or.inr ⟨cap, _, by omega, by omega, c3, as_ins hi hf, rfl⟩, by simp [nI_add, hli]⟩, ?_⟩, trivial⟩
            rw [List.append_nil]
            exact List.Perm.refl _
        · have := (nI_eq (by omega) (by omega)).mp g
          omega
  · obtain ⟨rfl, Z', t, g1, g2⟩ := h
    exact ⟨Z' ++ ws, t, by rw [List.append_assoc]; exact g2, hK Z' g1⟩
/-- a new list -/
theorem j_init0 (hX : b_okX X) {o : Nat} (hK : K ws none) : b_Meets X mJxa1e45_init_da8c8 ws [.ref o] K := by
  refine b_Meets.of hX rJxa1e45_init_da8c8 (al0 := [(0, .ref o)]) rfl rfl (fun AT step => ?_)
  refine step [] 4 ?_
  exact ⟨hK, trivial⟩
theorem j_init1 (hX : b_okX X) {o : Nat} {v w : Value} {x : Int32} (hK : K ((o, .inr (2, [.int (nI 0), v, w])) :: ws) none) : b_Meets X mJxc12de_init_da8c8 ((o, .inr (2, [.int x, v, w])) :: ws) [.ref o] K := by
  refine b_Meets.of hX rJxc12de_init_da8c8 (al0 := [(0, .ref o)]) rfl rfl (fun AT step => ?_)
  refine step [] 4 ?_
  refine j_init0 hX ?_
  refine ⟨0, _, rfl, Nat.le_of_ble_eq_true rfl, ?_⟩
  exact ⟨hK, trivial⟩
theorem j_init (hX : b_okX X) {e0 : Nat} (h1 : b_gs X (b_st 1) (.ref e0)) {o : Nat} (hK : K ((o, .inr (2, [.int (nI 0), .ref e0, .int 0])) :: ws) none) : b_Meets X mJx4a65c_init_da8c8 ((o, .inr (2, b_df 2)) :: ws) [.ref o] K := by
  refine b_Meets.of hX rJx4a65c_init_da8c8 (al0 := [(0, .ref o)]) rfl rfl (fun AT step => ?_)
  refine step [] 4 ?_
  refine j_init1 hX ?_
  refine ⟨_, h1, 0, _, rfl, Nat.le_of_ble_eq_true rfl, ?_⟩
  exact ⟨hK, trivial⟩
end Jm
