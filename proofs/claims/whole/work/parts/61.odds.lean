-- how many ways give two families two houses
def sm (g : Nat → Nat) : Nat → Nat
  | 0 => 0
  | n + 1 => sm g n + g n
theorem sm_cong {g g' : Nat → Nat} : ∀ n, (∀ i, i < n → g i = g' i) → sm g n = sm g' n
  | 0, _ => rfl
  | n + 1, h => by rw [sm, sm, sm_cong n (fun i hi => h i (by omega)), h n (by omega)]
theorem sm_zero {g : Nat → Nat} : ∀ n, (∀ i, i < n → g i = 0) → sm g n = 0
  | 0, _ => rfl
  | n + 1, h => by rw [sm, sm_zero n (fun i hi => h i (by omega)), h n (by omega)]
theorem sm_one {g : Nat → Nat} {a : Nat} : ∀ n, a < n → (∀ i, i < n → i ≠ a → g i = 0) → sm g n = g a
  | 0, h, _ => absurd h (Nat.not_lt_zero a)
  | n + 1, ha, h => by
    rw [sm]
    by_cases c : a = n
    · subst c
      rw [sm_zero a (fun i hi => h i (by omega) (by omega)), Nat.zero_add]
    · rw [sm_one n (by omega) (fun i hi => h i (by omega)), h n (by omega) (fun e => c e.symm), Nat.add_zero]
theorem sm_add {g g' : Nat → Nat} : ∀ n, sm (fun i => g i + g' i) n = sm g n + sm g' n
  | 0 => rfl
  | n + 1 => by rw [sm, sm, sm, sm_add n]; omega
theorem sm_mul {g : Nat → Nat} {c : Nat} : ∀ n, sm (fun i => g i * c) n = sm g n * c
  | 0 => (Nat.zero_mul c).symm
  | n + 1 => by rw [sm, sm, sm_mul n, Nat.add_mul]
def frN (m : Nat) : Nat → Nat := sm (fun h => if m.testBit h then 0 else 1)
def ff : Nat → Nat → Nat
  | _, 0 => 1
  | n, r + 1 => n * ff (n - 1) r
theorem cP_fm {b : (Nat → Nat) → Bool} {g : Nat → List (Nat → Nat)} : ∀ n, ((List.range n).flatMap g).countP b = sm (fun i => (g i).countP b) n
  | 0 => rfl
  | n + 1 => by rw [fm_succ, List.countP_append, cP_fm n, sm]
theorem cP_zero {b : (Nat → Nat) → Bool} {l : List (Nat → Nat)} (h : ∀ v ∈ l, b v = false) : l.countP b = 0 := by
  rw [List.countP_eq_zero]
  intro v hv
  rw [h v hv]
  decide
theorem cP_cong {b b' : (Nat → Nat) → Bool} {l : List (Nat → Nat)} (h : ∀ v ∈ l, b v = b' v) : l.countP b = l.countP b' := List.countP_congr (fun v hv => by rw [h v hv])
theorem cnt_P {b : (Nat → Nat) → Bool} {ws : List (Nat → Nat)} : ∀ k, k ≤ ws.length → cnt b ws k = (ws.take k).countP b
  | 0, _ => by simp [cnt]
  | k + 1, h => by
    obtain ⟨w, hw⟩ := get_some (ws := ws) (k := k) (by omega)
    rw [cnt_s hw, cnt_P k (by omega), List.take_succ, hw, List.countP_append]
    simp [List.countP_cons]
theorem cnt_all {b : (Nat → Nat) → Bool} {ws : List (Nat → Nat)} : cnt b ws ws.length = ws.countP b := by rw [cnt_P _ (Nat.le_refl _), List.take_length]
theorem tb_set {m h j : Nat} : (m ||| 2 ^ h).testBit j = (m.testBit j || decide (h = j)) := by rw [Nat.testBit_or, Nat.testBit_two_pow]
theorem frN_set {m h : Nat} : ∀ H, frN (m ||| 2 ^ h) H + (if h < H ∧ m.testBit h = false then 1 else 0) = frN m H
  | 0 => by simp [frN, sm]
  | H + 1 => by
    have ih := frN_set (m := m) (h := h) H
    unfold frN at ih ⊢
    rw [sm, sm, tb_set]
    by_cases c : h = H
    · subst c
      rw [if_neg (by omega)] at ih
      generalize sm (fun h_1 => if (m ||| 2 ^ h).testBit h_1 = true then 0 else 1) h = A at ih ⊢
      generalize sm (fun h => if m.testBit h = true then 0 else 1) h = B at ih ⊢
      cases hb : m.testBit h with
      | true => simp; omega
      | false => simp; omega
    · have e1 : (h < H + 1 ∧ m.testBit h = false) ↔ (h < H ∧ m.testBit h = false) := by constructor <;> rintro ⟨a, b⟩ <;> exact ⟨by omega, b⟩
      simp only [e1]
      have e2 : (m.testBit H || decide (h = H)) = m.testBit H := by simp [c]
      rw [e2]
      omega
theorem sm_free {m X : Nat} (H : Nat) : sm (fun h => if m.testBit h then 0 else X) H = frN m H * X := by
  unfold frN
  rw [← sm_mul]
  exact sm_cong H (fun i _ => by split <;> simp)
theorem sm_free1 {m X a : Nat} : ∀ H, sm (fun h => if m.testBit h then 0 else if h = a then 0 else X) H + (if a < H ∧ m.testBit a = false then X else 0) = frN m H * X
  | 0 => by simp [sm, frN]
  | H + 1 => by
    have ih := sm_free1 (m := m) (X := X) (a := a) H
    unfold frN at ih ⊢
    rw [sm, sm, Nat.add_mul]
    by_cases c : a = H
    · subst c
      rw [if_neg (by omega)] at ih
      cases hb : m.testBit a with
      | true => simp; omega
      | false => simp; omega
    · have e1 : (a < H + 1 ∧ m.testBit a = false) ↔ (a < H ∧ m.testBit a = false) := by constructor <;> rintro ⟨p, q⟩ <;> exact ⟨by omega, q⟩
      simp only [e1]
      cases hb : m.testBit H with
      | true => simp; omega
      | false => simp [show ¬ H = a from fun e => c e.symm]; omega
theorem sm_free2 {m X a b : Nat} (hab : a ≠ b) : ∀ H, sm (fun h => if m.testBit h then 0 else if h = a then 0 else if h = b then 0 else X) H + (if a < H ∧ m.testBit a = false then X else 0) + (if b < H ∧ m.testBit b = false then X else 0) = frN m H * X
  | 0 => by simp [sm, frN]
  | H + 1 => by
    have ih := sm_free2 (m := m) (X := X) hab H
    unfold frN at ih ⊢
    rw [sm, sm, Nat.add_mul]
    by_cases c : a = H
    · subst c
      have e1 : (b < a + 1 ∧ m.testBit b = false) ↔ (b < a ∧ m.testBit b = false) := by constructor <;> rintro ⟨p, q⟩ <;> exact ⟨by omega, q⟩
      simp only [e1]
      rw [if_neg (by omega)] at ih
      cases hb : m.testBit a with
      | true => simp; omega
      | false => simp; omega
    · by_cases d : b = H
      · subst d
        have e1 : (a < b + 1 ∧ m.testBit a = false) ↔ (a < b ∧ m.testBit a = false) := by constructor <;> rintro ⟨p, q⟩ <;> exact ⟨by omega, q⟩
        simp only [e1]
        rw [if_neg (show ¬ (b < b ∧ _) by omega)] at ih
        cases hb : m.testBit b with
        | true => simp; omega
        | false => simp [show ¬ b = a from fun e => hab e.symm]; omega
      · have e1 : (a < H + 1 ∧ m.testBit a = false) ↔ (a < H ∧ m.testBit a = false) := by constructor <;> rintro ⟨p, q⟩ <;> exact ⟨by omega, q⟩
        have e2 : (b < H + 1 ∧ m.testBit b = false) ↔ (b < H ∧ m.testBit b = false) := by constructor <;> rintro ⟨p, q⟩ <;> exact ⟨by omega, q⟩
        simp only [e1, e2]
        cases hb : m.testBit H with
        | true => simp; omega
        | false => simp [show ¬ H = a from fun e => c e.symm, show ¬ H = b from fun e => d e.symm]; omega
section WCOUNT
variable {H : Nat}
theorem gw_pre : ∀ r i m w v, v ∈ gw H r i m w → ∀ j, j < i → v j = w j
  | 0, i, m, w, v, hv, j, hj => by rw [gw, List.mem_singleton] at hv; rw [hv]
  | r + 1, i, m, w, v, hv, j, hj => by
    rw [gw, List.mem_flatMap] at hv
    obtain ⟨h, hh, hv⟩ := hv
    by_cases c : m.testBit h = true
    · rw [if_pos c] at hv; exact absurd hv List.not_mem_nil
    · rw [if_neg c] at hv
      rw [gw_pre r (i + 1) _ _ v hv j (by omega)]
      unfold updN
      rw [if_neg (by omega)]
theorem gw_new : ∀ r i m w v, v ∈ gw H r i m w → ∀ j, i ≤ j → j < i + r → m.testBit (v j) = false
  | 0, i, m, w, v, hv, j, h1, h2 => by omega
  | r + 1, i, m, w, v, hv, j, h1, h2 => by
    rw [gw, List.mem_flatMap] at hv
    obtain ⟨h, hh, hv⟩ := hv
    by_cases c : m.testBit h = true
    · rw [if_pos c] at hv; exact absurd hv List.not_mem_nil
    · rw [if_neg c] at hv
      by_cases c2 : j = i
      · subst c2
        rw [gw_pre r (j + 1) _ _ v hv j (by omega)]
        unfold updN
        rw [if_pos rfl]
        simpa using c
      · have := gw_new r (i + 1) _ _ v hv j (by omega) (by omega)
        rw [tb_set, Bool.or_eq_false_iff] at this
        exact this.1
theorem gw_ff : ∀ r i m w, (gw H r i m w).length = ff (frN m H) r
  | 0, i, m, w => rfl
  | r + 1, i, m, w => by
    have e : (gw H (r + 1) i m w).length = (gw H (r + 1) i m w).countP (fun _ => true) := by rw [List.countP_true]
    rw [e, gw, cP_fm, ff, ← sm_free]
    refine sm_cong H (fun h hh => ?_)
    by_cases c : m.testBit h = true
    · rw [if_pos c, if_pos c]; rfl
    · rw [if_neg c, if_neg c, List.countP_true, gw_ff r]
      have := frN_set (m := m) (h := h) H
      rw [if_pos ⟨hh, by simpa using c⟩] at this
      rw [show frN (m ||| 2 ^ h) H = frN m H - 1 by omega]
theorem gw_ff1 {e h2 : Nat} (hh2 : h2 < H) : ∀ r i m w, i ≤ e → e < i + r → m.testBit h2 = false → (gw H r i m w).countP (fun v => decide (v e = h2)) = ff (frN m H - 1) (r - 1)
  | 0, i, m, w, h1, h3, _ => by omega
  | r + 1, i, m, w, h1, h3, hm => by
    have f2 := frN_set (m := m) (h := h2) H
    rw [if_pos ⟨hh2, hm⟩] at f2
    rw [gw, cP_fm, Nat.add_sub_cancel]
    by_cases c : i = e
    · subst c
      rw [sm_one (a := h2) H hh2 (fun h hh hne => ?_)]
      · rw [if_neg (by simp [hm])]
        rw [cP_cong (b' := fun _ => true) (fun v hv => by rw [gw_pre r (i + 1) _ _ v hv i (by omega)]; simp [updN]), List.countP_true, gw_ff r]
        rw [show frN (m ||| 2 ^ h2) H = frN m H - 1 by omega]
      · by_cases c2 : m.testBit h = true
        · rw [if_pos c2]; rfl
        · rw [if_neg c2]
          exact cP_zero (fun v hv => by rw [gw_pre r (i + 1) _ _ v hv i (by omega)]; simp [updN, hne])
    · cases r with
      | zero => omega
      | succ r =>
        rw [ff]
        have key : sm (fun h => (if m.testBit h = true then ([] : List (Nat → Nat)) else gw H (r + 1) (i + 1) (m ||| 2 ^ h) (updN w i h)).countP (fun v => decide (v e = h2))) H = sm (fun h => if m.testBit h then 0 else if h = h2 then 0 else ff (frN m H - 1 - 1) r) H := by
          refine sm_cong H (fun h hh => ?_)
          by_cases c2 : m.testBit h = true
          · rw [if_pos c2, if_pos c2]; rfl
          · rw [if_neg c2, if_neg c2]
            by_cases c3 : h = h2
            · subst c3
              rw [if_pos rfl]
              exact cP_zero (fun v hv => by
                have := gw_new (r + 1) (i + 1) _ _ v hv e (by omega) (by omega)
                rw [tb_set, Bool.or_eq_false_iff] at this
                have h4 := this.2
                simp at h4
                simp
                exact fun z => h4 z.symm)
            · rw [if_neg c3]
              have f3 := frN_set (m := m) (h := h) H
              rw [if_pos ⟨hh, by simpa using c2⟩] at f3
              rw [gw_ff1 hh2 (r + 1) (i + 1) (m ||| 2 ^ h) _ (by omega) (by omega) (by rw [tb_set, hm]; simp [c3])]
              rw [show frN (m ||| 2 ^ h) H - 1 = frN m H - 1 - 1 by omega]
              rfl
        rw [key]
        have s1 := sm_free1 (m := m) (X := ff (frN m H - 1 - 1) r) (a := h2) H
        rw [if_pos ⟨hh2, hm⟩] at s1
        rw [Nat.sub_mul, Nat.one_mul]
        omega
theorem gw_ff2 {f e h1 h2 : Nat} (hfe : f ≠ e) (hh1 : h1 < H) (hh2 : h2 < H) (hne : h1 ≠ h2) : ∀ r i m w, i ≤ f → f < i + r → i ≤ e → e < i + r → m.testBit h1 = false → m.testBit h2 = false → (gw H r i m w).countP (fun v => decide (v f = h1) && decide (v e = h2)) = ff (frN m H - 2) (r - 2)
  | 0, i, m, w, a1, a2, _, _, _, _ => by omega
  | r + 1, i, m, w, a1, a2, b1, b2, hm1, hm2 => by
    have f1 := frN_set (m := m) (h := h1) H
    rw [if_pos ⟨hh1, hm1⟩] at f1
    have f2 := frN_set (m := m) (h := h2) H
    rw [if_pos ⟨hh2, hm2⟩] at f2
    rw [gw, cP_fm]
    by_cases c : i = f
    · subst c
      rw [sm_one (a := h1) H hh1 (fun h hh hn => ?_)]
      · rw [if_neg (by simp [hm1])]
        rw [cP_cong (b' := fun v => decide (v e = h2)) (fun v hv => by rw [gw_pre r (i + 1) _ _ v hv i (by omega)]; simp [updN]), gw_ff1 hh2 r (i + 1) _ _ (by omega) (by omega) (by rw [tb_set, hm2]; simp [hne])]
        rw [show frN (m ||| 2 ^ h1) H - 1 = frN m H - 2 by omega, show r - 1 = r + 1 - 2 by omega]
      · by_cases c2 : m.testBit h = true
        · rw [if_pos c2]; rfl
        · rw [if_neg c2]
          exact cP_zero (fun v hv => by rw [gw_pre r (i + 1) _ _ v hv i (by omega)]; simp [updN, hn])
    · by_cases d : i = e
      · subst d
        rw [sm_one (a := h2) H hh2 (fun h hh hn => ?_)]
        · rw [if_neg (by simp [hm2])]
          rw [cP_cong (b' := fun v => decide (v f = h1)) (fun v hv => by rw [gw_pre r (i + 1) _ _ v hv i (by omega)]; simp [updN]), gw_ff1 hh1 r (i + 1) _ _ (by omega) (by omega) (by rw [tb_set, hm1]; simp [Ne.symm hne])]
          rw [show frN (m ||| 2 ^ h2) H - 1 = frN m H - 2 by omega, show r - 1 = r + 1 - 2 by omega]
        · by_cases c2 : m.testBit h = true
          · rw [if_pos c2]; rfl
          · rw [if_neg c2]
            exact cP_zero (fun v hv => by rw [gw_pre r (i + 1) _ _ v hv i (by omega)]; simp [updN, hn])
      · match r, a2, b2 with
        | 0, _, _ => omega
        | 1, _, _ => omega
        | r + 2, a2, b2 =>
          have key : sm (fun h => (if m.testBit h = true then ([] : List (Nat → Nat)) else gw H (r + 2) (i + 1) (m ||| 2 ^ h) (updN w i h)).countP (fun v => decide (v f = h1) && decide (v e = h2))) H = sm (fun h => if m.testBit h then 0 else if h = h1 then 0 else if h = h2 then 0 else ff (frN m H - 2 - 1) r) H := by
            refine sm_cong H (fun h hh => ?_)
            by_cases c2 : m.testBit h = true
            · rw [if_pos c2, if_pos c2]; rfl
            · rw [if_neg c2, if_neg c2]
              by_cases c3 : h = h1
              · subst c3
                rw [if_pos rfl]
                exact cP_zero (fun v hv => by
                  have := gw_new (r + 2) (i + 1) _ _ v hv f (by omega) (by omega)
                  rw [tb_set, Bool.or_eq_false_iff] at this
                  have h4 := this.2
                  simp at h4
                  simp
                  exact fun z => absurd z.symm h4)
              · rw [if_neg c3]
                by_cases c4 : h = h2
                · subst c4
                  rw [if_pos rfl]
                  exact cP_zero (fun v hv => by
                    have := gw_new (r + 2) (i + 1) _ _ v hv e (by omega) (by omega)
                    rw [tb_set, Bool.or_eq_false_iff] at this
                    have h4 := this.2
                    simp at h4
                    simp
                    exact fun _ z => absurd z.symm h4)
                · rw [if_neg c4]
                  have f3 := frN_set (m := m) (h := h) H
                  rw [if_pos ⟨hh, by simpa using c2⟩] at f3
                  rw [gw_ff2 hfe hh1 hh2 hne (r + 2) (i + 1) (m ||| 2 ^ h) _ (by omega) (by omega) (by omega) (by omega) (by rw [tb_set, hm1]; simp [c3]) (by rw [tb_set, hm2]; simp [c4])]
                  rw [show frN (m ||| 2 ^ h) H - 2 = frN m H - 2 - 1 by omega]
                  rfl
          rw [key]
          show _ = (frN m H - 2) * ff (frN m H - 2 - 1) r
          have s1 := sm_free2 (m := m) (X := ff (frN m H - 2 - 1) r) hne H
          rw [if_pos ⟨hh1, hm1⟩, if_pos ⟨hh2, hm2⟩] at s1
          rw [Nat.sub_mul]
          omega
end WCOUNT
