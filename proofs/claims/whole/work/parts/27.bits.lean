-- single bits of a long
def tb (x : Int64) (i : Nat) : Bool := x.toBitVec.getLsbD i
def ix (f e : Nat) : Nat := (if e < f then e else f) * 6 + (if f < e then e else f)
theorem tb_or (x y : Int64) (i : Nat) : tb (x ||| y) i = (tb x i || tb y i) := by simp [tb]
theorem tb_and (x y : Int64) (i : Nat) : tb (x &&& y) i = (tb x i && tb y i) := by simp [tb]
theorem tb_0 (i : Nat) : tb 0 i = false := by simp [tb]
theorem tb_ext {x y : Int64} (h : ∀ i, i < 64 → tb x i = tb y i) : x = y := by
  apply Int64.toBitVec_inj.mp
  apply BitVec.eq_of_getLsbD_eq
  intro i hi
  exact h i hi
theorem tb_pbit : ∀ f, f < 6 → ∀ e, e < 6 → ∀ i, i < 64 → tb (pbit f e) i = decide (i = ix f e) := by decide +kernel
theorem ix_lt {f e : Nat} (hf : f < 6) (he : e < 6) : ix f e < 36 := by
  unfold ix
  split <;> split <;> omega
theorem ix_comm (f e : Nat) : ix f e = ix e f := by
  unfold ix
  by_cases h1 : e < f
  · rw [if_pos h1, if_neg (by omega), if_neg (by omega), if_pos h1]
  · by_cases h2 : f < e
    · rw [if_neg h1, if_pos h2, if_pos h2, if_neg h1]
    · have : f = e := by omega
      subst this; rfl
theorem ix_inj {f e a b : Nat} (h1 : f < e) (h2 : e < 6) (h3 : a < b) (h4 : b < 6) (h : ix f e = ix a b) : f = a ∧ e = b := by
  unfold ix at h
  rw [if_neg (by omega), if_pos h1, if_neg (by omega), if_pos h3] at h
  omega
theorem and_pbit {x : Int64} {f e : Nat} (hf : f < 6) (he : e < 6) : (x &&& pbit f e = 0) ↔ tb x (ix f e) = false := by
  have hl := ix_lt hf he
  constructor
  · intro h
    have h1 : tb (x &&& pbit f e) (ix f e) = false := by rw [h]; exact tb_0 _
    rw [tb_and, tb_pbit f hf e he _ (by omega)] at h1
    simpa using h1
  · intro h
    refine tb_ext (fun i hi => ?_)
    rw [tb_and, tb_pbit f hf e he i hi, tb_0]
    by_cases c : i = ix f e
    · rw [c, h]; rfl
    · simp [c]
theorem tb_prow {D hm : Nat → Nat} {f lo i : Nat} (hf : f < 6) (hi : i < 64) : ∀ n, n ≤ 6 → (tb (prow D hm f lo n) i = true ↔ ∃ e, lo ≤ e ∧ e < n ∧ thk D hm f e ≠ 0 ∧ i = ix f e)
  | 0, _ => by simp [prow, tb_0]
  | n + 1, hn => by
    rw [prow, tb_or, Bool.or_eq_true, tb_prow hf hi n (by omega)]
    constructor
    · rintro (⟨e, h1, h2, h3, h4⟩ | h)
      · exact ⟨e, h1, by omega, h3, h4⟩
      · by_cases c1 : lo ≤ n
        · rw [if_pos c1] at h
          by_cases c2 : thk D hm f n = 0
          · rw [if_pos c2, tb_0] at h; cases h
          · rw [if_neg c2, tb_pbit f hf n (by omega) i hi] at h
            exact ⟨n, c1, by omega, c2, by simpa using h⟩
        · rw [if_neg c1, tb_0] at h; cases h
    · rintro ⟨e, h1, h2, h3, h4⟩
      by_cases c : e = n
      · subst c
        right
        rw [if_pos h1, if_neg h3, tb_pbit f hf e (by omega) i hi]
        simpa using h4
      · exact Or.inl ⟨e, h1, by omega, h3, h4⟩
theorem tb_orL {g : Nat → Int64} {i : Nat} : ∀ n, (tb (bx_orL g n) i = true ↔ ∃ k, k < n ∧ tb (g k) i = true)
  | 0 => by simp [bx_orL, tb_0]
  | n + 1 => by
    rw [bx_orL, tb_or, Bool.or_eq_true, tb_orL n]
    constructor
    · rintro (⟨k, h1, h2⟩ | h)
      · exact ⟨k, by omega, h2⟩
      · exact ⟨n, by omega, h⟩
    · rintro ⟨k, h1, h2⟩
      by_cases c : k = n
      · subst c; exact Or.inr h2
      · exact Or.inl ⟨k, by omega, h2⟩
theorem tb_prs {D hm : Nat → Nat} {i : Nat} (hD : WfD D) (hi : i < 64) : tb (prs D hm) i = true ↔ ∃ f e, f < e ∧ e < D 1 ∧ thk D hm f e ≠ 0 ∧ i = ix f e := by
  have h6 : D 1 ≤ 6 := Nat.le_trans hD.1 hD.2.1
  rw [prs, tb_orL]
  constructor
  · rintro ⟨f, h1, h2⟩
    rw [tb_prow (by omega) hi _ h6] at h2
    obtain ⟨e, g1, g2, g3, g4⟩ := h2
    exact ⟨f, e, by omega, g2, g3, g4⟩
  · rintro ⟨f, e, h1, h2, h3, h4⟩
    exact ⟨f, by omega, (tb_prow (by omega) hi _ h6).mpr ⟨e, by omega, h2, h3, h4⟩⟩
theorem thk_comm {D hm : Nat → Nat} {f e : Nat} (hD : WfD D) (h1 : hm f < D 0) (h2 : hm e < D 0) : thk D hm f e = thk D hm e f := hD.2.2.2.2.2.1 _ _ (by have := hD.2.1; omega) (by have := hD.2.1; omega)
/-- a pair's bit among the neighbours' -/
theorem prs_bit {D hm : Nat → Nat} {a b : Nat} (hD : WfD D) (hh : ∀ f, f < D 1 → hm f < D 0) (ha : a < D 1) (hb : b < D 1) (hab : a ≠ b) : tb (prs D hm) (ix a b) = true ↔ thk D hm a b ≠ 0 := by
  have h6 : D 1 ≤ 6 := Nat.le_trans hD.1 hD.2.1
  have hl := ix_lt (f := a) (e := b) (by omega) (by omega)
  rw [tb_prs hD (by omega)]
  constructor
  · rintro ⟨f, e, h1, h2, h3, h4⟩
    rcases Nat.lt_or_ge a b with c | c
    · obtain ⟨rfl, rfl⟩ := ix_inj c (by omega) h1 (by omega) h4
      exact h3
    · rw [ix_comm] at h4
      obtain ⟨rfl, rfl⟩ := ix_inj (by omega) (by omega) h1 (by omega) h4
      rw [thk_comm hD (hh _ ha) (hh _ hb)]
      exact h3
  · intro h
    rcases Nat.lt_or_ge a b with c | c
    · exact ⟨a, b, c, hb, h, rfl⟩
    · exact ⟨b, a, by omega, ha, by rw [thk_comm hD (hh _ hb) (hh _ ha)]; exact h, ix_comm _ _⟩
theorem prs_and {D hm : Nat → Nat} {a b : Nat} (hD : WfD D) (hh : ∀ f, f < D 1 → hm f < D 0) (ha : a < D 1) (hb : b < D 1) (hab : a ≠ b) : (prs D hm &&& pbit a b = 0) ↔ thk D hm a b = 0 := by
  have h6 : D 1 ≤ 6 := Nat.le_trans hD.1 hD.2.1
  rw [and_pbit (by omega) (by omega)]
  have := prs_bit hD hh ha hb hab
  cases h : tb (prs D hm) (ix a b)
  · simp [h] at this
    simp [this]
  · simp [h] at this
    simp [this]
theorem cmp_eq {x y : Int64} : (lg_cmp x y = 0) ↔ x = y := by
  unfold lg_cmp
  by_cases h1 : x > y
  · rw [if_pos h1]
    exact ⟨fun h => absurd h (by decide), fun h => by subst h; exact absurd h1 (fun z => Int64.lt_irrefl z)⟩
  · rw [if_neg h1]
    by_cases h2 : x = y
    · rw [if_pos h2]; exact ⟨fun _ => h2, fun _ => rfl⟩
    · rw [if_neg h2]; exact ⟨fun h => absurd h (by decide), fun h => absurd h h2⟩
theorem cmp0 {x : Int64} : (lg_cmp x 0 = 0) ↔ x = 0 := cmp_eq
