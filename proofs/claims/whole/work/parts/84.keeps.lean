-- what a line keeps
theorem sm_up {f g : Nat → Nat} {p : Nat} (h1 : g p = f p + 1) (h2 : ∀ i, i ≠ p → g i = f i) : ∀ n, sm g n = sm f n + (if p < n then 1 else 0)
  | 0 => rfl
  | n + 1 => by
    rw [sm, sm, sm_up h1 h2 n]
    by_cases e : p = n
    · subst e
      rw [h1, if_neg (by omega), if_pos (by omega)]
      omega
    · rw [h2 n (fun z => e z.symm)]
      by_cases c : p < n
      · rw [if_pos c, if_pos (by omega)]; omega
      · rw [if_neg c, if_neg (by omega)]; omega
theorem wlS_up {D D1 : Nat → Nat} {p : Nat} (hp : p < 36) (h0 : D (8 + p) = 0) (h1 : D1 (8 + p) ≠ 0) (h2 : ∀ i, i ≠ p → i < 36 → D1 (8 + i) = D (8 + i)) : wlS D1 = wlS D + 1 := by
  have key : ∀ n, n ≤ 36 → sm (fun i => if D1 (8 + i) = 0 then 0 else 1) n = sm (fun i => if i = p then (if D (8 + i) = 0 then 0 else 1) + 1 else (if D (8 + i) = 0 then 0 else 1)) n := by
    intro n
    induction n with
    | zero => intro _; rfl
    | succ n ih =>
      intro hn
      rw [sm, sm, ih (by omega)]
      congr 1
      by_cases e : n = p
      · subst e
        rw [if_neg h1, if_pos rfl, if_pos h0]
      · rw [if_neg e, h2 n e (by omega)]
  unfold wlS
  rw [key 36 (Nat.le_refl _), sm_up (f := fun i => if D (8 + i) = 0 then 0 else 1) (p := p) (by rw [if_pos rfl]) (fun i hi => by rw [if_neg hi]) 36, if_pos hp]
theorem wlS_eq {D D1 : Nat → Nat} (h : ∀ i, i < 36 → D1 (8 + i) = D (8 + i)) : wlS D1 = wlS D := by
  have key : ∀ n, n ≤ 36 → sm (fun i => if D1 (8 + i) = 0 then 0 else 1) n = sm (fun i => if D (8 + i) = 0 then 0 else 1) n := by
    intro n
    induction n with
    | zero => intro _; rfl
    | succ n ih =>
      intro hn
      rw [sm, sm, ih (by omega), h n (by omega)]
  exact key 36 (Nat.le_refl _)
-- only what stands at some places is other
theorem WfW_eq {D D1 : Nat → Nat} (h : WfW D) (h2 : D1 2 = D 2) (h0 : D 0 ≤ D1 0) (hw : ∀ i, i < 36 → D1 (8 + i) = D (8 + i)) : WfW D1 := by
  refine ⟨by rw [h2, wl_S, wlS_eq hw, ← wl_S]; exact h.1, fun a b ha hb z => ?_⟩
  rw [hw _ (by omega)] at z
  have := h.2 a b ha hb z
  omega
section KEEPS
variable {tp : List Nat} {s : q_ts} {i M : Nat} {D : Nat → Nat} {N : q_nm}
theorem WfD_0 {v : Nat} (h : WfD D) (h1 : D 0 ≤ v) (h2 : v ≤ 6) : WfD (updN D 0 v) := by
  obtain ⟨a1, a2, a3, a4, a5, a6, a7, a8, a9, a10, a11⟩ := h
  refine ⟨by rw [updN_at, updN_ne (by decide)]; omega, by rw [updN_at]; exact h2, by rw [updN_ne (by decide)]; exact a3, by rw [updN_ne (by decide)]; exact a4, fun a ha => by rw [updN_ne (by omega)]; exact a5 a ha, fun a b ha hb => by rw [updN_ne (by omega), updN_ne (by omega)]; exact a6 a b ha hb, fun j hj => by rw [updN_ne (by omega)]; exact a7 j hj, fun f hf => by rw [updN_ne (by omega), updN_ne (by omega), updN_ne (by omega), updN_ne (by omega)]; exact a8 f hf, fun j hj => by rw [updN_ne (by omega), updN_ne (by omega), updN_ne (by omega)]; exact a9 j hj, fun k hk => ?_, fun k hk => ?_⟩
  · rw [updN_ne (by decide)] at hk
    rw [updN_ne (by omega), updN_ne (by omega), updN_ne (by omega)]
    exact a10 k hk
  · rw [updN_ne (by decide)] at hk
    rw [updN_ne (by omega), updN_ne (by omega), updN_ne (by omega)]
    exact a11 k hk
theorem WfD_w {a b v : Nat} (h : WfD D) (ha : a < 6) (hb : b < 6) (hab : a ≠ b) (hv : v ≤ 9) : WfD (wlD D a b v) := by
  obtain ⟨a1, a2, a3, a4, a5, a6, a7, a8, a9, a10, a11⟩ := h
  have n0 : ∀ j, j ≠ 2 → j ≠ 8 + (a * 6 + b) → j ≠ 8 + (b * 6 + a) → wlD D a b v j = D j := fun j z1 z2 z3 => by unfold wlD; rw [updN_ne z1, updN_ne z3, updN_ne z2]
  have n1 : wlD D a b v (8 + (a * 6 + b)) = v := by unfold wlD; rw [updN_ne (by omega), updN_ne (by omega), updN_at]
  have n2 : wlD D a b v (8 + (b * 6 + a)) = v := by unfold wlD; rw [updN_ne (by omega), updN_at]
  refine ⟨by rw [n0 _ (by decide) (by omega) (by omega), n0 _ (by decide) (by omega) (by omega)]; exact a1, by rw [n0 _ (by decide) (by omega) (by omega)]; exact a2, by rw [n0 _ (by decide) (by omega) (by omega)]; exact a3, by rw [n0 _ (by decide) (by omega) (by omega)]; exact a4, fun x hx => by rw [n0 _ (by omega) (by omega) (by omega)]; exact a5 x hx, fun x y hx hy => ?_, fun j hj => ?_, fun f hf => by rw [n0 _ (by omega) (by omega) (by omega), n0 _ (by omega) (by omega) (by omega), n0 _ (by omega) (by omega) (by omega), n0 _ (by omega) (by omega) (by omega)]; exact a8 f hf, fun j hj => by rw [n0 _ (by omega) (by omega) (by omega), n0 _ (by omega) (by omega) (by omega), n0 _ (by omega) (by omega) (by omega)]; exact a9 j hj, fun k hk => ?_, fun k hk => ?_⟩
  · by_cases e1 : x = a ∧ y = b
    · rw [e1.1, e1.2, n1, n2]
    · by_cases e2 : x = b ∧ y = a
      · rw [e2.1, e2.2, n1, n2]
      · rw [n0 _ (by omega) (by omega) (by omega), n0 _ (by omega) (by omega) (by omega)]
        exact a6 x y hx hy
  · by_cases e1 : j = a * 6 + b
    · rw [e1, n1]; exact hv
    · by_cases e2 : j = b * 6 + a
      · rw [e2, n2]; exact hv
      · rw [n0 _ (by omega) (by omega) (by omega)]; exact a7 j hj
  · rw [n0 3 (by decide) (by omega) (by omega)] at hk
    rw [n0 (176 + 2 * k) (by omega) (by omega) (by omega), n0 (177 + 2 * k) (by omega) (by omega) (by omega), n0 1 (by decide) (by omega) (by omega)]
    exact a10 k hk
  · rw [n0 4 (by decide) (by omega) (by omega)] at hk
    rw [n0 (184 + 2 * k) (by omega) (by omega) (by omega), n0 (185 + 2 * k) (by omega) (by omega) (by omega), n0 1 (by decide) (by omega) (by omega)]
    exact a11 k hk
theorem WfW_w {a b v : Nat} (hD : WfD D) (h : WfW D) (ha : a < D 0) (hb : b < D 0) (hab : a ≠ b) (h0 : D (8 + (a * 6 + b)) = 0) (hv : v ≠ 0) : WfW (wlD D a b v) := by
  have h6 := hD.2.1
  have n0 : ∀ j, j ≠ 2 → j ≠ 8 + (a * 6 + b) → j ≠ 8 + (b * 6 + a) → wlD D a b v j = D j := fun j z1 z2 z3 => by unfold wlD; rw [updN_ne z1, updN_ne z3, updN_ne z2]
  have s0 : D (8 + (b * 6 + a)) = 0 := by rw [← hD.2.2.2.2.2.1 a b (by omega) (by omega)]; exact h0
  refine ⟨?_, fun x y hx hy z => ?_⟩
  · have e2 : wlD D a b v 2 = D 2 + 1 := by unfold wlD; rw [updN_at]
    have w1 : wlS (updN D (8 + (a * 6 + b)) v) = wlS D + 1 := wlS_up (p := a * 6 + b) (by omega) h0 (by rw [updN_at]; exact hv) (fun j hj _ => updN_ne (by omega))
    have w2 : wlS (wlD D a b v) = wlS (updN D (8 + (a * 6 + b)) v) + 1 := wlS_up (p := b * 6 + a) (by omega) (by rw [updN_ne (by omega)]; exact s0) (by unfold wlD; rw [updN_ne (by omega), updN_at]; exact hv) (fun j hj _ => by unfold wlD; rw [updN_ne (by omega), updN_ne (by omega)])
    have := h.1
    rw [wl_S] at this ⊢
    rw [e2, w2, w1]
    omega
  · rw [n0 0 (by decide) (by omega) (by omega)]
    by_cases e1 : x = a ∧ y = b
    · omega
    · by_cases e2 : x = b ∧ y = a
      · omega
      · rw [n0 _ (by omega) (by omega) (by omega)] at z
        exact h.2 x y hx hy z
theorem WfD_t {j v : Nat} (h : WfD D) (hj : 68 ≤ j ∧ j < 176) (hv : (j < 140 → v ≤ 9) ∧ v ≤ 99) : WfD (updN D j v) := by
  obtain ⟨a1, a2, a3, a4, a5, a6, a7, a8, a9, a10, a11⟩ := h
  refine ⟨by rw [updN_ne (by omega), updN_ne (by omega)]; exact a1, by rw [updN_ne (by omega)]; exact a2, by rw [updN_ne (by omega)]; exact a3, by rw [updN_ne (by omega)]; exact a4, fun a ha => by rw [updN_ne (by omega)]; exact a5 a ha, fun a b ha hb => by rw [updN_ne (by omega), updN_ne (by omega)]; exact a6 a b ha hb, fun k hk => by rw [updN_ne (by omega)]; exact a7 k hk, fun f hf => by rw [updN_ne (by omega), updN_ne (by omega), updN_ne (by omega), updN_ne (by omega)]; exact a8 f hf, fun k hk => ?_, fun k hk => ?_, fun k hk => ?_⟩
  · have q := a9 k hk
    refine ⟨?_, ?_, ?_⟩
    · by_cases e : 68 + k = j
      · rw [e, updN_at]; exact hv.1 (by omega)
      · rw [updN_ne e]; exact q.1
    · by_cases e : 104 + k = j
      · rw [e, updN_at]; exact hv.1 (by omega)
      · rw [updN_ne e]; exact q.2.1
    · by_cases e : 140 + k = j
      · rw [e, updN_at]; exact hv.2
      · rw [updN_ne e]; exact q.2.2
  · rw [updN_ne (by omega)] at hk
    rw [updN_ne (by omega), updN_ne (by omega), updN_ne (by omega)]
    exact a10 k hk
  · rw [updN_ne (by omega)] at hk
    rw [updN_ne (by omega), updN_ne (by omega), updN_ne (by omega)]
    exact a11 k hk
theorem WfD_f {k a e c : Nat} (h : WfD D) (h1 : D 1 < D 0) (hk : k ≤ 3) (ha : a ≤ 9) (he : e ≤ 9) (hc : c ≤ 999) : WfD (fmD D (D 1) k a e c) := by
  obtain ⟨a1, a2, a3, a4, a5, a6, a7, a8, a9, a10, a11⟩ := h
  have d1 : fmD D (D 1) k a e c 1 = D 1 + 1 := by unfold fmD; rw [updN_at]
  have dn : ∀ j, j ≠ 1 → ¬ (44 + 4 * D 1 ≤ j ∧ j < 48 + 4 * D 1) → fmD D (D 1) k a e c j = D j := fun j z1 z2 => by
    unfold fmD
    rw [updN_ne z1, updN_ne (by omega), updN_ne (by omega), updN_ne (by omega), updN_ne (by omega)]
  have t0 : fmD D (D 1) k a e c (44 + 4 * D 1) = k := by unfold fmD; rw [updN_ne (by omega), updN_ne (by omega), updN_ne (by omega), updN_ne (by omega), updN_at]
  have t1 : fmD D (D 1) k a e c (45 + 4 * D 1) = a := by unfold fmD; rw [updN_ne (by omega), updN_ne (by omega), updN_ne (by omega), updN_at]
  have t2 : fmD D (D 1) k a e c (46 + 4 * D 1) = e := by unfold fmD; rw [updN_ne (by omega), updN_ne (by omega), updN_at]
  have t3 : fmD D (D 1) k a e c (47 + 4 * D 1) = c := by unfold fmD; rw [updN_ne (by omega), updN_at]
  refine ⟨by rw [d1, dn 0 (by decide) (by omega)]; omega, by rw [dn 0 (by decide) (by omega)]; exact a2, by rw [dn 3 (by decide) (by omega)]; exact a3, by rw [dn 4 (by decide) (by omega)]; exact a4, fun x hx => by rw [dn _ (by omega) (by omega)]; exact a5 x hx, fun x y hx hy => by rw [dn _ (by omega) (by omega), dn _ (by omega) (by omega)]; exact a6 x y hx hy, fun j hj => by rw [dn _ (by omega) (by omega)]; exact a7 j hj, fun f hf => ?_, fun j hj => by rw [dn _ (by omega) (by omega), dn _ (by omega) (by omega), dn _ (by omega) (by omega)]; exact a9 j hj, fun q hq => ?_, fun q hq => ?_⟩
  · by_cases ef : f = D 1
    · subst ef
      rw [t0, t1, t2, t3]
      exact ⟨hk, ha, he, hc⟩
    · rw [dn _ (by omega) (by omega), dn _ (by omega) (by omega), dn _ (by omega) (by omega), dn _ (by omega) (by omega)]
      exact a8 f hf
  · rw [dn 3 (by decide) (by omega)] at hq
    rw [dn (176 + 2 * q) (by omega) (by omega), dn (177 + 2 * q) (by omega) (by omega), d1]
    have := a10 q hq
    omega
  · rw [dn 4 (by decide) (by omega)] at hq
    rw [dn (184 + 2 * q) (by omega) (by omega), dn (185 + 2 * q) (by omega) (by omega), d1]
    have := a11 q hq
    omega
theorem WfD_c {x a b : Nat} (hx : x < 2) (h : WfD D) (h4 : D (3 + x) < 4) (ha : a < D 1) (hb : b < D 1) (hab : a ≠ b) : WfD (cuD D x a b) := by
  obtain ⟨a1, a2, a3, a4, a5, a6, a7, a8, a9, a10, a11⟩ := h
  have n0 : ∀ j, j < 176 → j ≠ 3 + x → cuD D x a b j = D j := fun j z1 z2 => by unfold cuD; rw [updN_ne z2, updN_ne (by omega), updN_ne (by omega)]
  have hx : x = 0 ∨ x = 1 := by omega
  refine ⟨by rw [n0 _ (by decide) (by omega), n0 _ (by decide) (by omega)]; exact a1, by rw [n0 _ (by decide) (by omega)]; exact a2, ?_, ?_, fun y hy => by rw [n0 _ (by omega) (by omega)]; exact a5 y hy, fun y z hy hz => by rw [n0 _ (by omega) (by omega), n0 _ (by omega) (by omega)]; exact a6 y z hy hz, fun j hj => by rw [n0 _ (by omega) (by omega)]; exact a7 j hj, fun f hf => by rw [n0 _ (by omega) (by omega), n0 _ (by omega) (by omega), n0 _ (by omega) (by omega), n0 _ (by omega) (by omega)]; exact a8 f hf, fun j hj => by rw [n0 _ (by omega) (by omega), n0 _ (by omega) (by omega), n0 _ (by omega) (by omega)]; exact a9 j hj, fun k hk => ?_, fun k hk => ?_⟩
  · rcases hx with z | z <;> subst z
    · unfold cuD; rw [show 3 + 0 = 3 from rfl, updN_at]; exact h4
    · rw [n0 _ (by decide) (by decide)]; exact a3
  · rcases hx with z | z <;> subst z
    · rw [n0 _ (by decide) (by decide)]; exact a4
    · unfold cuD; rw [show 3 + 1 = 4 from rfl, updN_at]; exact h4
  · rw [n0 1 (by decide) (by omega)]
    rcases hx with z | z <;> subst z
    · have q30 : D (3 + 0) = D 3 := rfl
      have e3 : cuD D 0 a b 3 = D 3 + 1 := by unfold cuD; rw [show 3 + 0 = 3 from rfl, updN_at]
      rw [e3] at hk
      by_cases ek : k = D 3
      · subst ek
        have u1 : cuD D 0 a b (176 + 2 * D 3) = a := by unfold cuD; rw [updN_ne (by omega), updN_ne (by omega), show 176 + 8 * 0 + 2 * D (3 + 0) = 176 + 2 * D 3 from rfl, updN_at]
        have u2 : cuD D 0 a b (177 + 2 * D 3) = b := by unfold cuD; rw [updN_ne (by omega), show 177 + 8 * 0 + 2 * D (3 + 0) = 177 + 2 * D 3 from rfl, updN_at]
        rw [u1, u2]
        exact ⟨ha, hb, hab⟩
      · have u1 : cuD D 0 a b (176 + 2 * k) = D (176 + 2 * k) := by unfold cuD; rw [updN_ne (by omega), updN_ne (by omega), updN_ne (by omega)]
        have u2 : cuD D 0 a b (177 + 2 * k) = D (177 + 2 * k) := by unfold cuD; rw [updN_ne (by omega), updN_ne (by omega), updN_ne (by omega)]
        rw [u1, u2]
        exact a10 k (by omega)
    · have e3 : cuD D 1 a b 3 = D 3 := n0 3 (by decide) (by decide)
      rw [e3] at hk
      have u1 : cuD D 1 a b (176 + 2 * k) = D (176 + 2 * k) := by unfold cuD; rw [updN_ne (by omega), updN_ne (by omega), updN_ne (by omega)]
      have u2 : cuD D 1 a b (177 + 2 * k) = D (177 + 2 * k) := by unfold cuD; rw [updN_ne (by omega), updN_ne (by omega), updN_ne (by omega)]
      rw [u1, u2]
      exact a10 k hk
  · rw [n0 1 (by decide) (by omega)]
    rcases hx with z | z <;> subst z
    · have q30 : D (3 + 0) = D 3 := rfl
      have e3 : cuD D 0 a b 4 = D 4 := n0 4 (by decide) (by decide)
      rw [e3] at hk
      have u1 : cuD D 0 a b (184 + 2 * k) = D (184 + 2 * k) := by unfold cuD; rw [updN_ne (by omega), updN_ne (by omega), updN_ne (by omega)]
      have u2 : cuD D 0 a b (185 + 2 * k) = D (185 + 2 * k) := by unfold cuD; rw [updN_ne (by omega), updN_ne (by omega), updN_ne (by omega)]
      rw [u1, u2]
      exact a11 k hk
    · have q31 : D (3 + 1) = D 4 := rfl
      have e3 : cuD D 1 a b 4 = D 4 + 1 := by unfold cuD; rw [show 3 + 1 = 4 from rfl, updN_at]
      rw [e3] at hk
      by_cases ek : k = D 4
      · subst ek
        have u1 : cuD D 1 a b (184 + 2 * D 4) = a := by unfold cuD; rw [updN_ne (by omega), updN_ne (by omega), show 176 + 8 * 1 + 2 * D (3 + 1) = 184 + 2 * D 4 from rfl, updN_at]
        have u2 : cuD D 1 a b (185 + 2 * D 4) = b := by unfold cuD; rw [updN_ne (by omega), show 177 + 8 * 1 + 2 * D (3 + 1) = 185 + 2 * D 4 from rfl, updN_at]
        rw [u1, u2]
        exact ⟨ha, hb, hab⟩
      · have u1 : cuD D 1 a b (184 + 2 * k) = D (184 + 2 * k) := by unfold cuD; rw [updN_ne (by omega), updN_ne (by omega), updN_ne (by omega)]
        have u2 : cuD D 1 a b (185 + 2 * k) = D (185 + 2 * k) := by unfold cuD; rw [updN_ne (by omega), updN_ne (by omega), updN_ne (by omega)]
        rw [u1, u2]
        exact a11 k (by omega)
theorem WN_eq {D1 : Nat → Nat} (h : WN D N) (h0 : D1 0 = D 0) (h1 : D1 1 = D 1) : WN D1 N := by
  unfold WN
  rw [h0, h1]
  exact h
theorem WN_add {D1 : Nat → Nat} {l : List Nat} {v : Nat} (h : WN D N) (hl : okL l) (hne : l ≠ []) (hN12 : N.length < 12) (hnew : lkN N l = none) (hvn : ∀ x ∈ N, x.2 ≠ v) (hv : v < D1 0 ∨ (20 ≤ v ∧ v < 20 + D1 1)) (h0 : D 0 ≤ D1 0) (h1 : D 1 ≤ D1 1) (e0 : ∀ q, q < D1 0 → q < D 0 ∨ q = v) (e1 : ∀ q, q < D1 1 → q < D 1 ∨ 20 + q = v) : WN D1 (N ++ [(l, v)]) := by
  obtain ⟨a1, a2, a3, a4, a5⟩ := h
  have nl : ∀ x ∈ N, x.1 ≠ l := fun x hx e => by
    have := (lkN_mem a3 (l := l) (v := x.2)).mpr (by rw [← e]; exact hx)
    rw [hnew] at this
    exact absurd this (by simp)
  refine ⟨by rw [List.length_append]; show N.length + 1 ≤ 12; omega, fun x hx => ?_, fun x hx y hy z => ?_, fun q hq => ?_, fun q hq => ?_⟩
  · rcases List.mem_append.mp hx with hx | hx
    · obtain ⟨b1, b2⟩ := a2 x hx
      exact ⟨by omega, b2⟩
    · rw [List.mem_singleton] at hx
      subst hx
      exact ⟨hv, hl.1, hne, hl.2⟩
  · rcases List.mem_append.mp hx with hx | hx <;> rcases List.mem_append.mp hy with hy | hy
    · exact a3 x hx y hy z
    · rw [List.mem_singleton] at hy
      subst hy
      rcases z with z | z
      · exact absurd z (nl x hx)
      · exact absurd z (hvn x hx)
    · rw [List.mem_singleton] at hx
      subst hx
      rcases z with z | z
      · exact absurd z.symm (nl y hy)
      · exact absurd z.symm (hvn y hy)
    · rw [List.mem_singleton] at hx hy
      rw [hx, hy]
  · rcases e0 q hq with z | z
    · obtain ⟨l', h'⟩ := a4 q z
      exact ⟨l', List.mem_append_left _ h'⟩
    · subst z
      exact ⟨l, List.mem_append_right _ (List.mem_singleton.mpr rfl)⟩
  · rcases e1 q hq with z | z
    · obtain ⟨l', h'⟩ := a5 q z
      exact ⟨l', List.mem_append_left _ h'⟩
    · subst z
      exact ⟨l, List.mem_append_right _ (List.mem_singleton.mpr rfl)⟩
end KEEPS
