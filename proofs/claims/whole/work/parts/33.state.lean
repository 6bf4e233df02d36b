/-! One mathematical state for both: what the class's cells hold of it, what the reference's -/
def cI (ns : List Nat) (σ : aS) (z : aZ) (l : List Nat) (left lang : Nat) (rom : Bool) (sp : Nat → Bool) (key : List Nat) (nm : List (Nat × Bool × Nat)) (recs : mR) (m : Nat) : Prop :=
  σ 1 1 = nI l.length ∧ σ 1 2 = nI left ∧ (∀ j, j < l.length → σ 2 j = nI (l.getD j 0)) ∧ (∀ j, j < 127 → σ 4 j = b2i (sp j)) ∧ σ 0 8 = nI lang ∧ σ 0 9 = b2i rom ∧ cK σ key ∧ cN σ nm ∧ cR (a_LL ns) σ recs ∧ ns.length = recs.length ∧ z = [zi (List.range recs.length), zi (srt recs m)]
def dI (σ : aS) (l : List Nat) (left lang : Nat) (rom : Bool) (sp : Nat → Bool) (key : List Nat) (nm : List (Nat × Bool × Nat)) (recs : mR) (m : Nat) : Prop :=
  σ 15 2 = nI l.length ∧ σ 15 3 = nI left ∧ (∀ j, j < l.length → σ 16 j = sb_b (l.getD j 0)) ∧ (∀ j, j < 127 → σ 17 j = b2i (sp j)) ∧ σ 15 4 = nI lang ∧ σ 15 5 = b2i rom ∧ dK σ key ∧ dN σ nm ∧ dR σ recs ∧ dF σ (srt recs m)
def gI (l : List Nat) (left lang : Nat) (key : List Nat) (nm : List (Nat × Bool × Nat)) (recs : mR) (m : Nat) : Prop :=
  l.length ≤ 80 ∧ left ≤ l.length ∧ (∀ x ∈ l, x < 256) ∧ lang < 4 ∧ kb key ∧ nm.length ≤ 40 ∧ rOK recs ∧ m ≤ recs.length
section St
variable {X : aX} {ad : Nat → Nat} {ns : List Nat} {σ σ' : aS} {z : aZ} {l l2 : List Nat} {left lang left2 lang2 : Nat} {rom rom2 : Bool} {sp sp2 : Nat → Bool} {key key2 : List Nat} {nm nm2 : List (Nat × Bool × Nat)} {recs recs2 : mR} {m m2 : Nat}
theorem dI_of (h : ∀ q, 15 ≤ q → q ≤ 27 → σ' q = σ q) (hd : dI σ l left lang rom sp key nm recs m) : dI σ' l left lang rom sp key nm recs m := by
  obtain ⟨h1, h2, h3, h4, h5, h6, h7, h8, h9, h10⟩ := hd
  have e15 := h 15 (by omega) (by omega)
  have e16 := h 16 (by omega) (by omega)
  have e17 := h 17 (by omega) (by omega)
  have e20 := h 20 (by omega) (by omega)
  have e21 := h 21 (by omega) (by omega)
  have e22 := h 22 (by omega) (by omega)
  have e23 := h 23 (by omega) (by omega)
  have e24 := h 24 (by omega) (by omega)
  have e25 := h 25 (by omega) (by omega)
  have e26 := h 26 (by omega) (by omega)
  have e27 := h 27 (by omega) (by omega)
  refine ⟨by rw [e15]; exact h1, by rw [e15]; exact h2, by rw [e16]; exact h3, by rw [e17]; exact h4, by rw [e15]; exact h5, by rw [e15]; exact h6, ?_, ?_, ?_, ?_⟩
  · unfold dK; rw [e15, e20]; exact h7
  · unfold dN; rw [e15, e21, e22, e23]; exact h8
  · unfold dR; rw [e15, e24, e25, e26]; exact h9
  · unfold dF; rw [e15, e27]; exact h10
theorem isK_of {L : List aC} {p : Nat} {k : List Nat} (hp : 27 < p) (h : ∀ q, 27 < q → σ' q = σ q) (hk : isK L σ p k) (hp2 : ∀ p', L[p]? = some (.inl (4, [.ref p', .int 0])) → 27 < p') : isK L σ' p k := by
  obtain ⟨p', n, h1, h2, h3, h4, h5, h6⟩ := hk
  have e := h p' (hp2 p' h1)
  exact ⟨p', n, h1, h2, h3, h4, by rw [h p hp]; exact h5, by rw [e]; exact h6⟩
theorem cR_of (hl : ns.length = recs.length) (h : ∀ q, 27 < q → σ' q = σ q) (hc : cR (a_LL ns) σ recs) : cR (a_LL ns) σ' recs := by
  intro r hr
  obtain ⟨h1, h2, h3, h4⟩ := hc r hr
  refine ⟨h1, by rw [h _ (by omega)]; exact h2, by rw [h _ (by omega)]; exact h3, isK_of (by omega) h h4 (fun p' hp => ?_)⟩
  rw [(a_LL_at (show r < ns.length by omega)).2.1] at hp
  have e4 : 30 + 3 * r = p' := Value.ref.inj (List.cons.inj (Prod.mk.inj (Sum.inl.inj (Option.some.inj hp))).2).1
  rw [← e4]
  exact (by omega : (27 : Nat) < 30 + 3 * r)
theorem cI_of (h : ∀ q, (q < 15 ∨ 27 < q) → σ' q = σ q) (hc : cI ns σ z l left lang rom sp key nm recs m) : cI ns σ' z l left lang rom sp key nm recs m := by
  obtain ⟨h1, h2, h3, h4, h5, h6, h7, h8, h9, h10, h11⟩ := hc
  have e0 := h 0 (by omega)
  have e1 := h 1 (by omega)
  have e2 := h 2 (by omega)
  have e4 := h 4 (by omega)
  have e9 := h 9 (by omega)
  have e10 := h 10 (by omega)
  have e11 := h 11 (by omega)
  have e12 := h 12 (by omega)
  have e13 := h 13 (by omega)
  have e14 := h 14 (by omega)
  refine ⟨by rw [e1]; exact h1, by rw [e1]; exact h2, by rw [e2]; exact h3, by rw [e4]; exact h4, by rw [e0]; exact h5, by rw [e0]; exact h6, ?_, ?_, cR_of h10 (fun q hq => h q (by omega)) h9, h10, h11⟩
  · unfold cK; rw [e9, e10]; exact h7
  · unfold cN; rw [e11, e12, e13, e14]; exact h8
/-- class and reference, each at its own state -/
def bI (ns : List Nat) (σ : aS) (z : aZ) (l l2 : List Nat) (left left2 lang lang2 : Nat) (rom rom2 : Bool) (sp sp2 : Nat → Bool) (key key2 : List Nat) (nm nm2 : List (Nat × Bool × Nat)) (recs recs2 : mR) (m m2 : Nat) : Prop :=
  cI ns σ z l left lang rom sp key nm recs m ∧ dI σ l2 left2 lang2 rom2 sp2 key2 nm2 recs2 m2
theorem up_lo {i k : Nat} {v : Int32} (hi : i < 15) : ∀ q, 15 ≤ q → q ≤ 27 → a_up σ i k v q = σ q := fun q h1 h2 => a_up_ne (by omega)
theorem up_hi {i k : Nat} {v : Int32} (h1 : 15 ≤ i) (h2 : i ≤ 27) : ∀ q, (q < 15 ∨ 27 < q) → a_up σ i k v q = σ q := fun q h => a_up_ne (by omega)
def mTi (l : List Nat) (c : Int32) : List Nat := if l.length < 80 then l ++ [tb c] else l
theorem mTi_ok {c : Int32} (h : l.length ≤ 80) (h2 : ∀ x ∈ l, x < 256) : (mTi l c).length ≤ 80 ∧ ∀ x ∈ mTi l c, x < 256 := by
  unfold mTi
  split
  · refine ⟨by simp; omega, fun x hx => ?_⟩
    rcases List.mem_append.mp hx with h | h
    · exact h2 x h
    · rw [List.mem_singleton.mp h]
      exact tb_lt c
  · exact ⟨h, h2⟩
theorem app_get {l : List Nat} {x j : Nat} (hj : j < (l ++ [x]).length) : (l ++ [x]).getD j 0 = if j = l.length then x else l.getD j 0 := by
  simp only [List.length_append, List.length_singleton] at hj
  by_cases e : j = l.length
  · subst e
    rw [if_pos rfl]
    simp
  · rw [if_neg e, List.getD_eq_getElem?_getD, List.getElem?_append_left (by omega), List.getD_eq_getElem?_getD]
theorem c_title (hX : a_okX X) (hl : l.length ≤ 80) (hc : cI ns σ z l left lang rom sp key nm recs m) (hd : dI σ l2 left2 lang2 rom2 sp2 key2 nm2 recs2 m2) {c : Int32} :
    a_Meets X ad (a_LL ns) mX7_title σ z [.ref 0, .int c] (fun σ' z' r => (cI ns σ' z' (mTi l c) left lang rom sp key nm recs m ∧ dI σ' l2 left2 lang2 rom2 sp2 key2 nm2 recs2 m2) ∧ r = none) := by
  obtain ⟨h1, h2, h3, h4, h5, h6, h7, h8, h9, h10, h11⟩ := hc
  refine t_ctitle hX hl h1 ⟨⟨?_, ?_⟩, rfl⟩
  · unfold mTi
    split
    · refine ⟨by simp [a_up], by simp [a_up, h2], fun j hj => ?_, by simp [a_up]; exact h4, by simp [a_up, h5], by simp [a_up, h6], by unfold cK; simp [a_up]; exact h7, by unfold cN; simp [a_up]; exact h8, cR_of h10 (fun q hq => by rw [a_up_ne (by omega), a_up_ne (by omega)]) h9, h10, h11⟩
      rw [app_get hj]
      simp only [List.length_append, List.length_singleton] at hj
      rw [a_up_ne (by decide)]
      by_cases e : j = l.length
      · simp [a_up, e]
      · simp [a_up, e]
        have := h3 j (by omega)
        rw [List.getD_eq_getElem?_getD] at this
        exact this
    · exact ⟨h1, h2, h3, h4, h5, h6, h7, h8, h9, h10, h11⟩
  · split
    · exact dI_of (fun q q1 q2 => by rw [a_up_ne (by omega), a_up_ne (by omega)]) hd
    · exact hd
theorem d_title (hX : a_okX X) (hl : l2.length ≤ 80) (hc : cI ns σ z l left lang rom sp key nm recs m) (hd : dI σ l2 left2 lang2 rom2 sp2 key2 nm2 recs2 m2) {c : Int32} :
    a_Meets X ad (a_LL ns) mX8_title σ z [.ref 15, .int c] (fun σ' z' r => (cI ns σ' z' l left lang rom sp key nm recs m ∧ dI σ' (mTi l2 c) left2 lang2 rom2 sp2 key2 nm2 recs2 m2) ∧ r = none) := by
  have hd0 := hd
  obtain ⟨h1, h2, h3, h4, h5, h6, h7, h8, h9, h10⟩ := hd
  refine t_mtitle hX hl h1 ⟨⟨?_, ?_⟩, rfl⟩
  · split
    · exact cI_of (fun q hq => by rw [a_up_ne (by omega), a_up_ne (by omega), a_up_ne (by omega)]) hc
    · exact cI_of (fun q hq => by rw [a_up_ne (by omega)]) hc
  · unfold mTi
    split
    · refine ⟨by simp [a_up], by simp [a_up, h2], fun j hj => ?_, by simp [a_up]; exact h4, by simp [a_up, h5], by simp [a_up, h6], by unfold dK; simp [a_up]; exact h7, by unfold dN; simp [a_up]; exact h8, by unfold dR; simp [a_up]; exact h9, by unfold dF; simp [a_up]; exact h10⟩
      rw [app_get hj]
      simp only [List.length_append, List.length_singleton] at hj
      rw [a_up_ne (by decide)]
      by_cases e : j = l2.length
      · simp [a_up, e]
      · simp [a_up, e]
        have := h3 j (by omega)
        rw [List.getD_eq_getElem?_getD] at this
        exact this
    · exact ⟨by simp [a_up, h1], by simp [a_up, h2], by simp [a_up]; exact h3, by simp [a_up]; exact h4, by simp [a_up, h5], by simp [a_up, h6], by unfold dK; simp [a_up]; exact h7, by unfold dN; simp [a_up]; exact h8, by unfold dR; simp [a_up]; exact h9, by unfold dF; simp [a_up]; exact h10⟩
/-- a write to the reference's own object alone, at places that say nothing of the state -/
theorem dI_0 {v : Int32} (hd : dI σ l2 left2 lang2 rom2 sp2 key2 nm2 recs2 m2) : dI (a_up σ 15 0 v) l2 left2 lang2 rom2 sp2 key2 nm2 recs2 m2 := by
  obtain ⟨h1, h2, h3, h4, h5, h6, h7, h8, h9, h10⟩ := hd
  exact ⟨by simp [a_up, h1], by simp [a_up, h2], by simp [a_up]; exact h3, by simp [a_up]; exact h4, by simp [a_up, h5], by simp [a_up, h6], by unfold dK; simp [a_up]; exact h7, by unfold dN; simp [a_up]; exact h8, by unfold dR; simp [a_up]; exact h9, by unfold dF; simp [a_up]; exact h10⟩
theorem cI_15 {k : Nat} {v : Int32} (hc : cI ns σ z l left lang rom sp key nm recs m) : cI ns (a_up σ 15 k v) z l left lang rom sp key nm recs m := cI_of (up_hi (by decide) (by decide)) hc
/-- language -/
def mLa (lang : Nat) (c : Int32) : Nat × Int32 := if 0 ≤ c.toInt ∧ c.toInt < 4 then (c.toInt.toNat, nI lang) else (lang, -1)
theorem in4 {c : Int32} : (0 ≤ c.toInt ∧ c.toInt < 4) ↔ ∃ j, j < 4 ∧ c = nI j := by
  constructor
  · rintro ⟨h1, h2⟩
    refine ⟨c.toInt.toNat, by omega, ?_⟩
    apply Int32.toInt_inj.mp
    rw [nI_toInt (by omega)]
    omega
  · rintro ⟨j, hj, rfl⟩
    rw [nI_toInt (by omega)]
    omega
theorem mLa_t {j : Nat} (hj : j < 4) : mLa lang (nI j) = (j, nI lang) := by
  unfold mLa
  rw [if_pos (in4.mpr ⟨j, hj, rfl⟩), nI_toInt (by omega)]
  rfl
theorem mLa_f {c : Int32} (h : ¬ ∃ j, j < 4 ∧ c = nI j) : mLa lang c = (lang, -1) := by
  unfold mLa
  rw [if_neg (fun g => h (in4.mp g))]
theorem mLa_lt {c : Int32} (h : lang < 4) : (mLa lang c).1 < 4 := by
  by_cases g : ∃ j, j < 4 ∧ c = nI j
  · obtain ⟨j, hj, rfl⟩ := g
    rw [mLa_t hj]
    exact hj
  · rw [mLa_f g]
    exact h
theorem c_language (hX : a_okX X) (hc : cI ns σ z l left lang rom sp key nm recs m) (hd : dI σ l2 left2 lang2 rom2 sp2 key2 nm2 recs2 m2) {c : Int32} :
    a_Meets X ad (a_LL ns) mX7_language σ z [.ref 0, .int c] (fun σ' z' r => (cI ns σ' z' l left (mLa lang c).1 rom sp key nm recs m ∧ dI σ' l2 left2 lang2 rom2 sp2 key2 nm2 recs2 m2) ∧ r = some (.int (mLa lang c).2)) := by
  have hc0 := hc
  obtain ⟨h1, h2, h3, h4, h5, h6, h7, h8, h9, h10, h11⟩ := hc
  refine t_X7_language hX (fun j hj e => ?_) (fun h => ?_)
  · subst e
    rw [mLa_t hj]
    refine ⟨⟨⟨by simp [a_up, h1], by simp [a_up, h2], by simp [a_up]; exact h3, by simp [a_up]; exact h4, by simp [a_up], by simp [a_up, h6], by unfold cK; simp [a_up]; exact h7, by unfold cN; simp [a_up]; exact h8, cR_of h10 (fun q hq => by rw [a_up_ne (by omega)]) h9, h10, h11⟩, dI_of (up_lo (by decide)) hd⟩, by rw [h5]⟩
  · rw [mLa_f h]
    exact ⟨⟨hc0, hd⟩, rfl⟩
theorem d_language (hX : a_okX X) (hc : cI ns σ z l left lang rom sp key nm recs m) (hd : dI σ l2 left2 lang2 rom2 sp2 key2 nm2 recs2 m2) {c : Int32} :
    a_Meets X ad (a_LL ns) mX8_language σ z [.ref 15, .int c] (fun σ' z' r => (cI ns σ' z' l left lang rom sp key nm recs m ∧ dI σ' l2 left2 (mLa lang2 c).1 rom2 sp2 key2 nm2 recs2 m2) ∧ r = some (.int (mLa lang2 c).2)) := by
  have hd0 := hd
  obtain ⟨h1, h2, h3, h4, h5, h6, h7, h8, h9, h10⟩ := hd
  refine t_mlanguage hX (fun j hj e => ?_) (fun h => ?_)
  · subst e
    rw [mLa_t hj]
    refine ⟨⟨cI_15 (cI_15 hc), ⟨by simp [a_up, h1], by simp [a_up, h2], by simp [a_up]; exact h3, by simp [a_up]; exact h4, by simp [a_up], by simp [a_up, h6], by unfold dK; simp [a_up]; exact h7, by unfold dN; simp [a_up]; exact h8, by unfold dR; simp [a_up]; exact h9, by unfold dF; simp [a_up]; exact h10⟩⟩, by rw [h5]⟩
  · rw [mLa_f h]
    exact ⟨⟨cI_15 hc, dI_0 hd0⟩, rfl⟩
/-- roman -/
theorem c_roman (hX : a_okX X) (hc : cI ns σ z l left lang rom sp key nm recs m) (hd : dI σ l2 left2 lang2 rom2 sp2 key2 nm2 recs2 m2) {b : Bool} :
    a_Meets X ad (a_LL ns) mX7_roman σ z [.ref 0, .int (b2i b)] (fun σ' z' r => (cI ns σ' z' l left lang b sp key nm recs m ∧ dI σ' l2 left2 lang2 rom2 sp2 key2 nm2 recs2 m2) ∧ r = some (.int (b2i rom))) := by
  obtain ⟨h1, h2, h3, h4, h5, h6, h7, h8, h9, h10, h11⟩ := hc
  refine t_X7_roman hX h6 ⟨⟨⟨by simp [a_up, h1], by simp [a_up, h2], by simp [a_up]; exact h3, by simp [a_up]; exact h4, by simp [a_up, h5], by simp [a_up], by unfold cK; simp [a_up]; exact h7, by unfold cN; simp [a_up]; exact h8, cR_of h10 (fun q hq => by rw [a_up_ne (by omega)]) h9, h10, h11⟩, dI_of (up_lo (by decide)) hd⟩, rfl⟩
theorem d_roman (hX : a_okX X) (hc : cI ns σ z l left lang rom sp key nm recs m) (hd : dI σ l2 left2 lang2 rom2 sp2 key2 nm2 recs2 m2) {b : Bool} :
    a_Meets X ad (a_LL ns) mX8_roman σ z [.ref 15, .int (b2i b)] (fun σ' z' r => (cI ns σ' z' l left lang rom sp key nm recs m ∧ dI σ' l2 left2 lang2 b sp2 key2 nm2 recs2 m2) ∧ r = some (.int (b2i rom2))) := by
  obtain ⟨h1, h2, h3, h4, h5, h6, h7, h8, h9, h10⟩ := hd
  refine t_mroman hX h6 ⟨⟨cI_15 (cI_15 hc), ⟨by simp [a_up, h1], by simp [a_up, h2], by simp [a_up]; exact h3, by simp [a_up]; exact h4, by simp [a_up, h5], by simp [a_up], by unfold dK; simp [a_up]; exact h7, by unfold dN; simp [a_up]; exact h8, by unfold dR; simp [a_up]; exact h9, by unfold dF; simp [a_up]; exact h10⟩⟩, rfl⟩
/-- mark -/
def mMa (sp : Nat → Bool) (c s : Int32) : (Nat → Bool) × Int32 := if mMk c s then (fun j => if j = c.toInt.toNat then decide (s = 1) else sp j, b2i (sp c.toInt.toNat)) else (sp, -1)
theorem mMk_b {c s : Int32} (h : mMk c s = true) : s = b2i (decide (s = 1)) := by
  obtain ⟨-, b, rfl⟩ := mMk_t h
  cases b <;> rfl
theorem c_mark (hX : a_okX X) (hc : cI ns σ z l left lang rom sp key nm recs m) (hd : dI σ l2 left2 lang2 rom2 sp2 key2 nm2 recs2 m2) {c s : Int32} :
    a_Meets X ad (a_LL ns) mX7_mark σ z [.ref 0, .int c, .int s] (fun σ' z' r => (cI ns σ' z' l left lang rom (mMa sp c s).1 key nm recs m ∧ dI σ' l2 left2 lang2 rom2 sp2 key2 nm2 recs2 m2) ∧ r = some (.int (mMa sp c s).2)) := by
  have hc0 := hc
  obtain ⟨h1, h2, h3, h4, h5, h6, h7, h8, h9, h10, h11⟩ := hc
  refine t_cmark hX h4 (fun h => ?_) (fun h => ?_)
  · unfold mMa
    rw [if_pos h]
    refine ⟨⟨⟨by simp [a_up, h1], by simp [a_up, h2], by simp [a_up]; exact h3, fun j hj => ?_, by simp [a_up, h5], by simp [a_up, h6], by unfold cK; simp [a_up]; exact h7, by unfold cN; simp [a_up]; exact h8, cR_of h10 (fun q hq => by rw [a_up_ne (by omega)]) h9, h10, h11⟩, dI_of (up_lo (by decide)) hd⟩, rfl⟩
    by_cases e : j = c.toInt.toNat
    · subst e
      have := mMk_b h
      simp only [a_up, if_true]
      exact this
    · simp only [a_up, if_true, if_neg e]
      exact h4 j hj
  · unfold mMa
    rw [h]
    exact ⟨⟨hc0, hd⟩, rfl⟩
theorem d_mark (hX : a_okX X) (hc : cI ns σ z l left lang rom sp key nm recs m) (hd : dI σ l2 left2 lang2 rom2 sp2 key2 nm2 recs2 m2) {c s : Int32} :
    a_Meets X ad (a_LL ns) mX8_mark σ z [.ref 15, .int c, .int s] (fun σ' z' r => (cI ns σ' z' l left lang rom sp key nm recs m ∧ dI σ' l2 left2 lang2 rom2 (mMa sp2 c s).1 key2 nm2 recs2 m2) ∧ r = some (.int (mMa sp2 c s).2)) := by
  have hd0 := hd
  obtain ⟨h1, h2, h3, h4, h5, h6, h7, h8, h9, h10⟩ := hd
  refine t_mmark hX h4 (fun h => ?_) (fun h => ?_)
  · unfold mMa
    rw [if_pos h]
    refine ⟨⟨cI_of (fun q hq => by rw [a_up_ne (by omega), a_up_ne (by omega)]) hc, ⟨by simp [a_up, h1], by simp [a_up, h2], by simp [a_up]; exact h3, fun j hj => ?_, by simp [a_up, h5], by simp [a_up, h6], by unfold dK; simp [a_up]; exact h7, by unfold dN; simp [a_up]; exact h8, by unfold dR; simp [a_up]; exact h9, by unfold dF; simp [a_up]; exact h10⟩⟩, rfl⟩
    by_cases e : j = c.toInt.toNat
    · subst e
      have := mMk_b h
      simp only [a_up, if_true]
      exact this
    · simp only [a_up, if_true, if_neg e, show (17 : Nat) ≠ 15 by decide, if_false]
      exact h4 j hj
  · unfold mMa
    rw [h]
    exact ⟨⟨cI_15 hc, dI_0 hd0⟩, rfl⟩
/-- skip -/
def mSp (n left : Nat) (c : Int32) : Nat × Int32 := if 0 ≤ c.toInt ∧ c.toInt ≤ n then (c.toInt.toNat, 1) else (left, 0)
theorem inN {n : Nat} {c : Int32} (hn : n < 1000) : (0 ≤ c.toInt ∧ c.toInt ≤ n) ↔ ∃ j, j ≤ n ∧ c = nI j := by
  constructor
  · rintro ⟨h1, h2⟩
    refine ⟨c.toInt.toNat, by omega, ?_⟩
    apply Int32.toInt_inj.mp
    rw [nI_toInt (by omega)]
    omega
  · rintro ⟨j, hj, rfl⟩
    rw [nI_toInt (by omega)]
    omega
theorem mSp_t {n j : Nat} (hn : n < 1000) (hj : j ≤ n) : mSp n left (nI j) = (j, 1) := by
  unfold mSp
  rw [if_pos ((inN hn).mpr ⟨j, hj, rfl⟩), nI_toInt (by omega)]
  rfl
theorem mSp_f {n : Nat} {c : Int32} (hn : n < 1000) (h : ¬ ∃ j, j ≤ n ∧ c = nI j) : mSp n left c = (left, 0) := by
  unfold mSp
  rw [if_neg (fun g => h ((inN hn).mp g))]
theorem mSp_le {n : Nat} {c : Int32} (hn : n < 1000) (h : left ≤ n) : (mSp n left c).1 ≤ n := by
  by_cases g : ∃ j, j ≤ n ∧ c = nI j
  · obtain ⟨j, hj, rfl⟩ := g
    rw [mSp_t hn hj]
    exact hj
  · rw [mSp_f hn g]
    exact h
theorem c_skip (hX : a_okX X) (hl : l.length ≤ 80) (hc : cI ns σ z l left lang rom sp key nm recs m) (hd : dI σ l2 left2 lang2 rom2 sp2 key2 nm2 recs2 m2) {c : Int32} :
    a_Meets X ad (a_LL ns) mX7_skip σ z [.ref 0, .int c] (fun σ' z' r => (cI ns σ' z' l (mSp l.length left c).1 lang rom sp key nm recs m ∧ dI σ' l2 left2 lang2 rom2 sp2 key2 nm2 recs2 m2) ∧ r = some (.int (mSp l.length left c).2)) := by
  have hc0 := hc
  obtain ⟨h1, h2, h3, h4, h5, h6, h7, h8, h9, h10, h11⟩ := hc
  refine t_cskip hX hl h1 (fun j hj e => ?_) (fun h => ?_)
  · subst e
    rw [mSp_t (by omega) hj]
    exact ⟨⟨⟨by simp [a_up, h1], by simp [a_up], by simp [a_up]; exact h3, by simp [a_up]; exact h4, by simp [a_up, h5], by simp [a_up, h6], by unfold cK; simp [a_up]; exact h7, by unfold cN; simp [a_up]; exact h8, cR_of h10 (fun q hq => by rw [a_up_ne (by omega)]) h9, h10, h11⟩, dI_of (up_lo (by decide)) hd⟩, rfl⟩
  · rw [mSp_f (by omega) h]
    exact ⟨⟨hc0, hd⟩, rfl⟩
theorem d_skip (hX : a_okX X) (hl : l2.length ≤ 80) (hc : cI ns σ z l left lang rom sp key nm recs m) (hd : dI σ l2 left2 lang2 rom2 sp2 key2 nm2 recs2 m2) {c : Int32} :
    a_Meets X ad (a_LL ns) mX8_skip σ z [.ref 15, .int c] (fun σ' z' r => (cI ns σ' z' l left lang rom sp key nm recs m ∧ dI σ' l2 (mSp l2.length left2 c).1 lang2 rom2 sp2 key2 nm2 recs2 m2) ∧ r = some (.int (mSp l2.length left2 c).2)) := by
  have hd0 := hd
  obtain ⟨h1, h2, h3, h4, h5, h6, h7, h8, h9, h10⟩ := hd
  refine t_mskip hX hl h1 (fun j hj e => ?_) (fun h => ?_)
  · subst e
    rw [mSp_t (by omega) hj]
    exact ⟨⟨cI_15 (cI_15 hc), ⟨by simp [a_up, h1], by simp [a_up], by simp [a_up]; exact h3, by simp [a_up]; exact h4, by simp [a_up, h5], by simp [a_up, h6], by unfold dK; simp [a_up]; exact h7, by unfold dN; simp [a_up]; exact h8, by unfold dR; simp [a_up]; exact h9, by unfold dF; simp [a_up]; exact h10⟩⟩, rfl⟩
  · rw [mSp_f (by omega) h]
    exact ⟨⟨cI_15 hc, dI_0 hd0⟩, rfl⟩
/-- key -/
theorem c_key (hX : a_okX X) (hT : a_okT X ad (a_LL ns)) (hl : l.length ≤ 80) (hle : left ≤ l.length) (hx : ∀ x ∈ l, x < 256) (hlang : lang < 4) (hc : cI ns σ z l left lang rom sp key nm recs m) (hd : dI σ l2 left2 lang2 rom2 sp2 key2 nm2 recs2 m2) :
    a_Meets X ad (a_LL ns) mX7_key σ z [.ref 0] (fun σ' z' r => ((cI ns σ' z' [] 0 lang rom sp (mKey l left lang rom sp).1 (mKey l left lang rom sp).2 recs m ∧ (mKey l left lang rom sp).1.length ≤ 240 ∧ (mKey l left lang rom sp).2.length ≤ 40) ∧ dI σ' l2 left2 lang2 rom2 sp2 key2 nm2 recs2 m2) ∧ r = some (.int (nI (mKey l left lang rom sp).1.length))) := by
  obtain ⟨h1, h2, h3, h4, h5, h6, h7, h8, h9, h10, h11⟩ := hc
  refine t_X7_key hX hT hl hle hx hlang h1 h2 h3 h4 h5 h6 (fun σ' g1 g2 g3 g4 g5 g6 g7 => ?_)
  refine ⟨⟨⟨⟨g1, g2, fun j hj => absurd hj (by simp), by rw [g7 4 (by decide) (by omega)]; exact h4, by rw [g7 0 (by decide) (by omega)]; exact h5, by rw [g7 0 (by decide) (by omega)]; exact h6, g3, g4, cR_of h10 (fun q hq => g7 q (by omega) (by omega)) h9, h10, h11⟩, g5, g6⟩, dI_of (fun q q1 q2 => g7 q (by omega) (by omega)) hd⟩, rfl⟩
theorem d_key (hX : a_okX X) (hl : l2.length ≤ 80) (hle : left2 ≤ l2.length) (hx : ∀ x ∈ l2, x < 256) (hlang : lang2 < 4) (hc : cI ns σ z l left lang rom sp key nm recs m) (hd : dI σ l2 left2 lang2 rom2 sp2 key2 nm2 recs2 m2) :
    a_Meets X ad (a_LL ns) mX8_key σ z [.ref 15] (fun σ' z' r => (cI ns σ' z' l left lang rom sp key nm recs m ∧ dI σ' [] 0 lang2 rom2 sp2 (mKey l2 left2 lang2 rom2 sp2).1 (mKey l2 left2 lang2 rom2 sp2).2 recs2 m2) ∧ r = some (.int (nI (mKey l2 left2 lang2 rom2 sp2).1.length))) := by
  obtain ⟨h1, h2, h3, h4, h5, h6, h7, h8, h9, h10⟩ := hd
  refine t_X8_key hX hl hle hx hlang h1 h2 h3 h4 h5 h6 (fun σ' g1 g2 g3 g4 g5 g6 g7 => ?_)
  refine ⟨⟨cI_of (fun q hq => g6 q (by omega) (by omega) (by omega) (by omega)) hc, ⟨g1, g2, fun j hj => absurd hj (by simp), by rw [g6 17 (by decide) (by decide) (by decide) (by omega)]; exact h4, by rw [g7 4 (by decide) (by decide) (by decide) (by decide) (by decide) (by decide) (by decide)]; exact h5, by rw [g7 5 (by decide) (by decide) (by decide) (by decide) (by decide) (by decide) (by decide)]; exact h6, g4, g5, ?_, ?_⟩⟩, rfl⟩
  · unfold dR
    rw [g7 16 (by decide) (by decide) (by decide) (by decide) (by decide) (by decide) (by decide), g6 24 (by decide) (by decide) (by decide) (by omega), g6 25 (by decide) (by decide) (by decide) (by omega), g6 26 (by decide) (by decide) (by decide) (by omega)]
    exact h9
  · unfold dF
    rw [g7 21 (by decide) (by decide) (by decide) (by decide) (by decide) (by decide) (by decide), g6 27 (by decide) (by decide) (by decide) (by omega)]
    exact h10
/-- what is asked only -/
theorem srt_fl {recs : mR} {m : Nat} (hr : rOK recs) (hm : m ≤ recs.length) : (srt recs m).length ≤ 60 ∧ ∀ r ∈ srt recs m, r < recs.length := by
  have h1 := hr.1
  refine ⟨by rw [srt_len]; omega, fun r h => ?_⟩
  have := srt_lt m r h
  omega
theorem cI_isK (hk : kb key) (hc : cK σ key) : isK (a_LL ns) σ 9 key := ⟨10, 240, rfl, rfl, hk.1, hk, hc.1, hc.2⟩
theorem c_number (hX : a_okX X) (hn : nm.length ≤ 40) (hc : cI ns σ z l left lang rom sp key nm recs m) (hd : dI σ l2 left2 lang2 rom2 sp2 key2 nm2 recs2 m2) {i k : Int32} :
    a_Meets X ad (a_LL ns) mX7_number σ z [.ref 0, .int i, .int k] (fun σ' z' r => (cI ns σ' z' l left lang rom sp key nm recs m ∧ dI σ' l2 left2 lang2 rom2 sp2 key2 nm2 recs2 m2) ∧ r = some (.int (mNu nm i k))) :=
  t_cnumber hX hc.2.2.2.2.2.2.2.1 hn ⟨⟨hc, hd⟩, rfl⟩
theorem d_number (hX : a_okX X) (hn : nm2.length ≤ 40) (hc : cI ns σ z l left lang rom sp key nm recs m) (hd : dI σ l2 left2 lang2 rom2 sp2 key2 nm2 recs2 m2) {i k : Int32} :
    a_Meets X ad (a_LL ns) mX8_number σ z [.ref 15, .int i, .int k] (fun σ' z' r => (cI ns σ' z' l left lang rom sp key nm recs m ∧ dI σ' l2 left2 lang2 rom2 sp2 key2 nm2 recs2 m2) ∧ r = some (.int (mNu nm2 i k))) :=
  t_mnumber hX hd.2.2.2.2.2.2.2.1 hn ⟨⟨cI_15 hc, dI_0 hd⟩, rfl⟩
theorem c_file (hX : a_okX X) (hZ : a_okZ X ad (a_LL ns)) (hr : rOK recs) (hm : m ≤ recs.length) (hc : cI ns σ z l left lang rom sp key nm recs m) (hd : dI σ l2 left2 lang2 rom2 sp2 key2 nm2 recs2 m2) :
    a_Meets X ad (a_LL ns) mX7_file σ z [.ref 0] (fun σ' z' r => (cI ns σ' z' l left lang rom sp key nm recs recs.length ∧ dI σ' l2 left2 lang2 rom2 sp2 key2 nm2 recs2 m2) ∧ r = some (.int (nI recs.length))) := by
  obtain ⟨h1, h2, h3, h4, h5, h6, h7, h8, h9, h10, h11⟩ := hc
  subst h11
  exact t_file hX hZ hr h9 hm ⟨⟨⟨h1, h2, h3, h4, h5, h6, h7, h8, h9, h10, rfl⟩, hd⟩, rfl⟩
theorem d_file (hX : a_okX X) (hr : rOK recs2) (hk : kb key2) (hc : cI ns σ z l left lang rom sp key nm recs m) (hd : dI σ l2 left2 lang2 rom2 sp2 key2 nm2 recs2 m2) :
    a_Meets X ad (a_LL ns) mX8_file σ z [.ref 15] (fun σ' z' r => (cI ns σ' z' l left lang rom sp key nm recs m ∧ dI σ' l2 left2 lang2 rom2 sp2 key2 nm2 recs2 recs2.length) ∧ r = some (.int (nI recs2.length))) := by
  obtain ⟨h1, h2, h3, h4, h5, h6, h7, h8, h9, h10⟩ := hd
  refine t_mfile hX hr hk h9 h7 (fun σ' g1 g2 g3 g4 => ⟨⟨cI_of (fun q hq => g3 q (by omega) (by omega)) hc, ⟨by rw [g4 2 (by decide) (by decide)]; exact h1, by rw [g4 3 (by decide) (by decide)]; exact h2, by rw [g3 16 (by decide) (by decide)]; exact h3, by rw [g3 17 (by decide) (by decide)]; exact h4, by rw [g4 4 (by decide) (by decide)]; exact h5, by rw [g4 5 (by decide) (by decide)]; exact h6, ?_, ?_, ?_, g1⟩⟩, rfl⟩)
  · unfold dK
    rw [g4 11 (by decide) (by decide), g3 20 (by decide) (by decide)]
    exact h7
  · unfold dN
    rw [g4 15 (by decide) (by decide), g3 21 (by decide) (by decide), g3 22 (by decide) (by decide), g3 23 (by decide) (by decide)]
    exact h8
  · unfold dR
    rw [g4 16 (by decide) (by decide), g3 24 (by decide) (by decide), g3 25 (by decide) (by decide), g3 26 (by decide) (by decide)]
    exact h9
theorem c_browse (hX : a_okX X) (hZ : a_okZ X ad (a_LL ns)) (hr : rOK recs) (hm : m ≤ recs.length) (hc : cI ns σ z l left lang rom sp key nm recs m) (hd : dI σ l2 left2 lang2 rom2 sp2 key2 nm2 recs2 m2) {x i : Int32} :
    a_Meets X ad (a_LL ns) mX7_browse σ z [.ref 0, .int x, .int i] (fun σ' z' r => (cI ns σ' z' l left lang rom sp key nm recs m ∧ dI σ' l2 left2 lang2 rom2 sp2 key2 nm2 recs2 m2) ∧ r = some (.int (mBr (srt recs m) i (pOf (srt recs m) x 0 (srt recs m).length)))) := by
  have hc0 := hc
  obtain ⟨h1, h2, h3, h4, h5, h6, h7, h8, h9, h10, h11⟩ := hc
  subst h11
  exact t_browse hX hZ hr h9 (srt_fl hr hm).1 (srt_fl hr hm).2 ⟨⟨hc0, hd⟩, rfl⟩
theorem d_browse (hX : a_okX X) (hr : rOK recs2) (hm : m2 ≤ recs2.length) (hc : cI ns σ z l left lang rom sp key nm recs m) (hd : dI σ l2 left2 lang2 rom2 sp2 key2 nm2 recs2 m2) {x i : Int32} :
    a_Meets X ad (a_LL ns) mX8_browse σ z [.ref 15, .int x, .int i] (fun σ' z' r => (cI ns σ' z' l left lang rom sp key nm recs m ∧ dI σ' l2 left2 lang2 rom2 sp2 key2 nm2 recs2 m2) ∧ r = some (.int (mBr (srt recs2 m2) i (pOf (srt recs2 m2) x 0 (srt recs2 m2).length)))) :=
  t_mbrowse hX hd.2.2.2.2.2.2.2.2.2 (srt_fl hr hm).1 ⟨⟨cI_15 hc, dI_0 hd⟩, rfl⟩
theorem c_seek (hX : a_okX X) (hZ : a_okZ X ad (a_LL ns)) (hr : rOK recs) (hm : m ≤ recs.length) (hk : kb key) (hc : cI ns σ z l left lang rom sp key nm recs m) (hd : dI σ l2 left2 lang2 rom2 sp2 key2 nm2 recs2 m2) :
    a_Meets X ad (a_LL ns) mX7_seek σ z [.ref 0] (fun σ' z' r => (cI ns σ' z' l left lang rom sp key nm recs m ∧ dI σ' l2 left2 lang2 rom2 sp2 key2 nm2 recs2 m2) ∧ r = some (.int (mSk recs key (srt recs m) 0 (srt recs m).length))) := by
  have hc0 := hc
  obtain ⟨h1, h2, h3, h4, h5, h6, h7, h8, h9, h10, h11⟩ := hc
  subst h11
  exact t_seek hX hZ hr h9 (srt_fl hr hm).1 (srt_fl hr hm).2 (cI_isK hk h7) ⟨⟨hc0, hd⟩, rfl⟩
theorem d_seek (hX : a_okX X) (hr : rOK recs2) (hm : m2 ≤ recs2.length) (hk : kb key2) (hc : cI ns σ z l left lang rom sp key nm recs m) (hd : dI σ l2 left2 lang2 rom2 sp2 key2 nm2 recs2 m2) :
    a_Meets X ad (a_LL ns) mX8_seek σ z [.ref 15] (fun σ' z' r => (cI ns σ' z' l left lang rom sp key nm recs m ∧ dI σ' l2 left2 lang2 rom2 sp2 key2 nm2 recs2 m2) ∧ r = some (.int (mSk recs2 key2 (srt recs2 m2) 0 (srt recs2 m2).length))) :=
  t_mseek hX hr hk hd.2.2.2.2.2.2.2.2.1 hd.2.2.2.2.2.2.1 hd.2.2.2.2.2.2.2.2.2 (srt_fl hr hm).1 (srt_fl hr hm).2 ⟨⟨cI_15 hc, dI_0 hd⟩, rfl⟩
theorem c_compare (hX : a_okX X) (hZ : a_okZ X ad (a_LL ns)) (hr : rOK recs) (hc : cI ns σ z l left lang rom sp key nm recs m) (hd : dI σ l2 left2 lang2 rom2 sp2 key2 nm2 recs2 m2) {x y : Int32} :
    a_Meets X ad (a_LL ns) mX7_compare σ z [.ref 0, .int x, .int y] (fun σ' z' r => (cI ns σ' z' l left lang rom sp key nm recs m ∧ dI σ' l2 left2 lang2 rom2 sp2 key2 nm2 recs2 m2) ∧ r = some (.int (mCm recs x y))) := by
  have hc0 := hc
  obtain ⟨h1, h2, h3, h4, h5, h6, h7, h8, h9, h10, h11⟩ := hc
  subst h11
  exact t_compare hX hZ hr h9 ⟨⟨hc0, hd⟩, rfl⟩
theorem d_compare (hX : a_okX X) (hr : rOK recs2) (hk : kb key2) (hc : cI ns σ z l left lang rom sp key nm recs m) (hd : dI σ l2 left2 lang2 rom2 sp2 key2 nm2 recs2 m2) {x y : Int32} :
    a_Meets X ad (a_LL ns) mX8_compare σ z [.ref 15, .int x, .int y] (fun σ' z' r => (cI ns σ' z' l left lang rom sp key nm recs m ∧ dI σ' l2 left2 lang2 rom2 sp2 key2 nm2 recs2 m2) ∧ r = some (.int (mCm recs2 x y))) :=
  t_mcompare hX hr hk hd.2.2.2.2.2.2.2.2.1 hd.2.2.2.2.2.2.1 ⟨⟨cI_15 hc, dI_0 hd⟩, rfl⟩
theorem c_equal (hX : a_okX X) (hZ : a_okZ X ad (a_LL ns)) (hr : rOK recs) (hc : cI ns σ z l left lang rom sp key nm recs m) (hd : dI σ l2 left2 lang2 rom2 sp2 key2 nm2 recs2 m2) {x i : Int32} :
    a_Meets X ad (a_LL ns) mX7_equal σ z [.ref 0, .int x, .int i] (fun σ' z' r => (cI ns σ' z' l left lang rom sp key nm recs m ∧ dI σ' l2 left2 lang2 rom2 sp2 key2 nm2 recs2 m2) ∧ r = some (.int (mEq recs x i))) := by
  have hc0 := hc
  obtain ⟨h1, h2, h3, h4, h5, h6, h7, h8, h9, h10, h11⟩ := hc
  subst h11
  exact t_equal hX hZ hr h9 ⟨⟨hc0, hd⟩, rfl⟩
theorem d_equal (hX : a_okX X) (hr : rOK recs2) (hk : kb key2) (hc : cI ns σ z l left lang rom sp key nm recs m) (hd : dI σ l2 left2 lang2 rom2 sp2 key2 nm2 recs2 m2) {x i : Int32} :
    a_Meets X ad (a_LL ns) mX8_equal σ z [.ref 15, .int x, .int i] (fun σ' z' r => (cI ns σ' z' l left lang rom sp key nm recs m ∧ dI σ' l2 left2 lang2 rom2 sp2 key2 nm2 recs2 m2) ∧ r = some (.int (mEq recs2 x i))) :=
  t_mequal hX hr hk hd.2.2.2.2.2.2.2.2.1 hd.2.2.2.2.2.2.1 ⟨⟨cI_15 hc, dI_0 hd⟩, rfl⟩
/-- a record more: what was filed stays filed -/
theorem lt_app {recs : mR} {x : Nat × List Nat} {a b : Nat} (ha : a < recs.length) (hb : b < recs.length) : bef (recs ++ [x]) a b = bef recs a b := by
  unfold bef
  simp only [kyO_app, rkO_app, if_neg (show ¬ a = recs.length by omega), if_neg (show ¬ b = recs.length by omega)]
theorem plc_app {recs : mR} {x : Nat × List Nat} {a : Nat} {fl : List Nat} (ha : a < recs.length) (hf : ∀ r ∈ fl, r < recs.length) : ∀ p, p ≤ fl.length → plc (recs ++ [x]) a fl p = plc recs a fl p := by
  intro p
  induction p with
  | zero => intro _; rfl
  | succ p ih =>
    intro hp
    unfold plc
    have hg : fl.getD p 0 < recs.length := by
      rw [List.getD_eq_getElem?_getD, List.getElem?_eq_getElem (by omega)]
      exact hf _ (List.getElem_mem (by omega))
    rw [lt_app ha hg, ih (by omega)]
theorem srt_app {recs : mR} {x : Nat × List Nat} : ∀ m, m ≤ recs.length → srt (recs ++ [x]) m = srt recs m := by
  intro m
  induction m with
  | zero => intro _; rfl
  | succ m ih =>
    intro hm
    unfold srt
    rw [ih (by omega), plc_app (by omega) (fun r hr => by have := srt_lt m r hr; omega) _ (Nat.le_refl _)]
theorem d_add (hX : a_okX X) (hr : rOK recs2) (hk : kb key2) (hm : m2 ≤ recs2.length) (hc : cI ns σ z l left lang rom sp key nm recs m) (hd : dI σ l2 left2 lang2 rom2 sp2 key2 nm2 recs2 m2) {c : Int32} {ans : Int32} {recs3 : mR}
    (hT : ∀ j, j < 4 → c = nI j → recs2.length < 60 → recs3 = recs2 ++ [(j, key2)] ∧ ans = nI (recs2.length + 1)) (hF : (¬ ((∃ j, j < 4 ∧ c = nI j) ∧ recs2.length < 60)) → recs3 = recs2 ∧ ans = nI 0) :
    a_Meets X ad (a_LL ns) mX8_add σ z [.ref 15, .int c] (fun σ' z' r => (cI ns σ' z' l left lang rom sp key nm recs m ∧ dI σ' l2 left2 lang2 rom2 sp2 key2 nm2 recs3 m2) ∧ r = some (.int ans)) := by
  have hd0 := hd
  obtain ⟨h1, h2, h3, h4, h5, h6, h7, h8, h9, h10⟩ := hd
  refine t_madd hX hr hk h9 h7 (fun j hj e hlt σ' g1 g2 g3 g4 => ?_) (fun h => ?_)
  · obtain ⟨rfl, rfl⟩ := hT j hj e hlt
    refine ⟨⟨cI_of (fun q hq => g3 q (by omega) (by omega)) hc, ⟨by rw [g4 2 (by decide) (by decide)]; exact h1, by rw [g4 3 (by decide) (by decide)]; exact h2, by rw [g3 16 (by decide) (by omega)]; exact h3, by rw [g3 17 (by decide) (by omega)]; exact h4, by rw [g4 4 (by decide) (by decide)]; exact h5, by rw [g4 5 (by decide) (by decide)]; exact h6, ?_, ?_, g1, ?_⟩⟩, rfl⟩
    · unfold dK
      rw [g4 11 (by decide) (by decide), g3 20 (by decide) (by omega)]
      exact h7
    · unfold dN
      rw [g4 15 (by decide) (by decide), g3 21 (by decide) (by omega), g3 22 (by decide) (by omega), g3 23 (by decide) (by omega)]
      exact h8
    · unfold dF
      rw [g4 21 (by decide) (by decide), g3 27 (by decide) (by omega), srt_app m2 hm]
      exact h10
  · obtain ⟨rfl, rfl⟩ := hF h
    exact ⟨⟨cI_15 hc, dI_0 hd0⟩, rfl⟩
/-- at, and whether it threw -/
def mAt (key : List Nat) (i : Int32) : Int32 × Int32 := if 0 ≤ i.toInt ∧ i.toInt < key.length then (0, nI (key.getD i.toInt.toNat 0)) else (1, 0)
theorem inK {n : Nat} {c : Int32} (hn : n ≤ 1000) : (0 ≤ c.toInt ∧ c.toInt < n) ↔ ∃ j, j < n ∧ c = nI j := by
  constructor
  · rintro ⟨h1, h2⟩
    refine ⟨c.toInt.toNat, by omega, ?_⟩
    apply Int32.toInt_inj.mp
    rw [nI_toInt (by omega)]
    omega
  · rintro ⟨j, hj, rfl⟩
    rw [nI_toInt (by omega)]
    omega
theorem mAt_t {j : Nat} (hk : key.length ≤ 1000) (hj : j < key.length) : mAt key (nI j) = (0, nI (key.getD j 0)) := by
  unfold mAt
  rw [if_pos ((inK hk).mpr ⟨j, hj, rfl⟩), nI_toInt (by omega)]
  rfl
theorem mAt_f {c : Int32} (hk : key.length ≤ 1000) (h : ¬ ∃ j, j < key.length ∧ c = nI j) : mAt key c = (1, 0) := by
  unfold mAt
  rw [if_neg (fun g => h ((inK hk).mp g))]
theorem d_at (hX : a_okX X) (hk : kb key2) (hc : cI ns σ z l left lang rom sp key nm recs m) (hd : dI σ l2 left2 lang2 rom2 sp2 key2 nm2 recs2 m2) {i : Int32} :
    a_Meets X ad (a_LL ns) mX8_at σ z [.ref 15, .int i] (fun σ' z' r => ((cI ns σ' z' l left lang rom sp key nm recs m ∧ dI σ' l2 left2 lang2 rom2 sp2 key2 nm2 recs2 m2) ∧ σ' 15 0 = (mAt key2 i).1) ∧ r = some (.int (mAt key2 i).2)) := by
  have hk1 := hk.1
  refine t_mat hX hd.2.2.2.2.2.2.1 hk (fun j hj e => ?_) (fun h => ?_)
  · subst e
    rw [mAt_t (by omega) hj]
    exact ⟨⟨⟨cI_15 hc, dI_0 hd⟩, by simp [a_up]; rfl⟩, rfl⟩
  · rw [mAt_f (by omega) h]
    exact ⟨⟨⟨cI_15 (cI_15 hc), dI_0 (dI_0 hd)⟩, by simp [a_up]; rfl⟩, rfl⟩
theorem d_thrown (hX : a_okX X) {t : Int32} (hc : cI ns σ z l left lang rom sp key nm recs m) (hd : dI σ l2 left2 lang2 rom2 sp2 key2 nm2 recs2 m2) (ht : σ 15 0 = t) :
    a_Meets X ad (a_LL ns) mX8_thrown σ z [.ref 15] (fun σ' z' r => (cI ns σ' z' l left lang rom sp key nm recs m ∧ dI σ' l2 left2 lang2 rom2 sp2 key2 nm2 recs2 m2) ∧ r = some (.int t)) := by
  subst ht
  exact t_mthrown hX ⟨⟨hc, hd⟩, rfl⟩
end St
