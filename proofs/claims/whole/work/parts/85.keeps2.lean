section KEEPS2
variable {tp : List Nat} {s : q_ts} {i M : Nat} {D : Nat → Nat} {N : q_nm} {T : q_tk}
theorem nwF_0 (h : nwF N T = 0) : T.1 = 1 ∧ lkN N T.2.2.2 = none := by
  unfold nwF at h
  by_cases c : isNm T = true
  · rw [if_pos c] at h
    refine ⟨(isNm_t.mp c).1, ?_⟩
    cases e : lkN N T.2.2.2 with
    | none => rfl
    | some v => rw [e] at h; exact absurd (show (3 : Nat) = 0 from h) (by decide)
  · rw [if_neg c] at h; exact absurd h (by decide)
theorem tdF_0 {b : Nat} (h : tdF N b T = 0) : T.1 = 1 := by
  unfold tdF at h
  by_cases c : isNm T = true
  · exact (isNm_t.mp c).1
  · rw [if_neg c] at h; exact absurd h (by decide)
theorem nmF_0 {lo hi : Nat} (h : nmF T lo hi = 0) : T.1 = 2 ∧ lo ≤ T.2.2.1 ∧ T.2.2.1 ≤ hi := by
  unfold nmF at h
  by_cases c : T.1 = 2
  · rw [if_pos c] at h
    by_cases c2 : T.2.2.1 < lo
    · rw [if_pos c2] at h; exact absurd h (by decide)
    · rw [if_neg c2] at h
      by_cases c3 : hi < T.2.2.1
      · rw [if_pos c3] at h; exact absurd h (by decide)
      · exact ⟨c, by omega, by omega⟩
  · rw [if_neg c] at h; exact absurd h (by decide)
theorem twF_0 {b : Nat} (h : (twF tp N b i).1 = 0) : tdF N b (tk tp i) = 0 ∧ tdF N b (tk tp (i + 1)) = 0 ∧ tdX N b (tk tp i) ≠ tdX N b (tk tp (i + 1)) := by
  unfold twF at h
  by_cases c : tdF N b (tk tp i) = 0
  · rw [if_pos c] at h
    by_cases c2 : tdF N b (tk tp (i + 1)) = 0
    · rw [if_pos c2] at h
      by_cases c3 : tdX N b (tk tp i) = tdX N b (tk tp (i + 1))
      · rw [if_pos c3] at h; exact absurd (show (3 : Nat) = 0 from h) (by decide)
      · exact ⟨c, c2, c3⟩
    · rw [if_neg c2] at h; exact absurd h c2
  · rw [if_neg c] at h; exact absurd h c
theorem trF_0 {w hi : Nat} (h : (trF tp w hi i).1 = 0) : isW (tk tp i) w = true ∧ nmF (tk tp (i + 1)) 0 hi = 0 := by
  unfold trF at h
  by_cases c : isW (tk tp i) w = true
  · rw [if_pos c] at h
    by_cases c2 : nmF (tk tp (i + 1)) 0 hi = 0
    · exact ⟨c, c2⟩
    · rw [if_neg c2] at h; exact absurd h c2
  · rw [if_neg c] at h; exact absurd (show (1 : Nat) = 0 from h) (by decide)
theorem fmF_0 (h : (fmF tp N i).1 = 0) : nwF N (tk tp (i + 1)) = 0 ∧ ¬ kdT (tk tp (i + 2)) = -1 ∧ (trF tp 3 9 (i + 3)).1 = 0 ∧ (trF tp 4 9 (i + 5)).1 = 0 ∧ (trF tp 5 999 (i + 7)).1 = 0 := by
  unfold fmF at h
  by_cases c : nwF N (tk tp (i + 1)) = 0
  · rw [if_pos c] at h
    by_cases c2 : kdT (tk tp (i + 2)) = -1
    · rw [if_pos c2] at h; exact absurd (show (1 : Nat) = 0 from h) (by decide)
    · rw [if_neg c2] at h
      by_cases c3 : (trF tp 3 9 (i + 3)).1 = 0
      · rw [if_pos c3] at h
        by_cases c4 : (trF tp 4 9 (i + 5)).1 = 0
        · rw [if_pos c4] at h
          exact ⟨c, c2, c3, c4, h⟩
        · rw [if_neg c4] at h; exact absurd h c4
      · rw [if_neg c3] at h; exact absurd h c3
  · rw [if_neg c] at h; exact absurd h c
theorem kdT_0 (h : ¬ kdT T = -1) : T.1 = 1 ∧ 18 ≤ T.2.2.1 ∧ T.2.2.1 ≤ 21 := Classical.byContradiction (fun z => h (by unfold kdT; exact if_neg z))
-- a line keeps it, and goes on
theorem tk_up {j : Nat} (hM : IsM tp M) (h : j ≤ M) (hs : (tk tp j).1 ≠ 0) : j + 1 ≤ M := tk_in hM h hs
def WSx (M i : Nat) (r : q_lr) : Prop := r.1 = 0 → WS r.2.2 ∧ i < r.2.1 ∧ r.2.1 ≤ M
theorem WSx_bad {k j : Nat} (h : k ≠ 0) : WSx M i (k, j, s) := fun z => absurd z h
theorem WS_H (hM : IsM tp M) (hi : i < M) (hW : WS s) : WSx M i (lnH tp s i) := by
  unfold lnH
  by_cases c : 6 ≤ s.1 0
  · rw [if_pos c]; exact WSx_bad (by decide)
  · rw [if_neg c]
    by_cases c2 : nwF s.2.2.2 (tk tp (i + 1)) = 0
    · rw [if_pos c2]
      obtain ⟨n1, n2⟩ := nwF_0 c2
      have h2 := tk_up (j := i + 1) hM hi (by rw [n1]; decide)
      obtain ⟨w1, w2, w3, w4, w5⟩ := hW
      have h6 := w1.F6
      have g := tkA_w n1
      have e0 : updN s.1 0 (s.1 0 + 1) 0 = s.1 0 + 1 := updN_at _ _ _
      have en : ∀ j, j ≠ 0 → updN s.1 0 (s.1 0 + 1) j = s.1 j := fun j hj => updN_ne hj
      have W1 : WfD (updN s.1 0 (s.1 0 + 1)) := WfD_0 w1 (by omega) (by omega)
      have W2 : WfW (updN s.1 0 (s.1 0 + 1)) := WfW_eq w2 (en 2 (by decide)) (by rw [e0]; omega) (fun j hj => en _ (by omega))
      have W3 : WN (updN s.1 0 (s.1 0 + 1)) (s.2.2.2 ++ [((tk tp (i + 1)).2.2.2, s.1 0)]) := WN_add w3 g.1 g.2.1 (by omega) n2 (fun x hx => by have := (w3.2.1 x hx).1; omega) (Or.inl (by rw [e0]; omega)) (by rw [e0]; omega) (by rw [en 1 (by decide)]; exact Nat.le_refl _) (fun q hq => by rw [e0] at hq; omega) (fun q hq => by rw [en 1 (by decide)] at hq; exact Or.inl hq)
      have W4 : (s.2.2.2 ++ [((tk tp (i + 1)).2.2.2, s.1 0)]).length = updN s.1 0 (s.1 0 + 1) 0 + updN s.1 0 (s.1 0 + 1) 1 := by
        rw [e0, en 1 (by decide), List.length_append, w4]
        show s.1 0 + s.1 1 + 1 = s.1 0 + 1 + s.1 1
        omega
      exact fun _ => ⟨⟨W1, W2, W3, W4, w5⟩, by show i < i + 2; omega, h2⟩
    · rw [if_neg c2]; exact WSx_bad c2
theorem WS_W (hM : IsM tp M) (hi : i < M) (hW : WS s) : WSx M i (lnW tp s i) := by
  unfold lnW
  by_cases c : (twF tp s.2.2.2 0 (i + 1)).1 = 0
  · rw [if_pos c]
    obtain ⟨t1, t2, t3⟩ := twF_0 c
    rw [show i + 1 + 1 = i + 2 from rfl] at t2 t3
    by_cases c2 : s.1 (8 + (tdX s.2.2.2 0 (tk tp (i + 1)) * 6 + tdX s.2.2.2 0 (tk tp (i + 2)))) = 0
    · rw [if_pos c2]
      by_cases c3 : nmF (tk tp (i + 3)) 1 9 = 0
      · rw [if_pos c3]
        obtain ⟨w1, w2, w3, w4, w5⟩ := hW
        obtain ⟨v1, v2, v3⟩ := nmF_0 c3
        have a6 := ((tdX_lt (T := tk tp (i + 1)) w1 w3).1 t1).1
        have b6 := ((tdX_lt (T := tk tp (i + 2)) w1 w3).1 t2).1
        have h6 := w1.2.1
        have h1 := tk_up (j := i + 1) hM hi (by rw [tdF_0 t1]; decide)
        have h2 := tk_up (j := i + 2) hM h1 (by rw [tdF_0 t2]; decide)
        have h3 := tk_up (j := i + 3) hM h2 (by rw [v1]; decide)
        have n0 : ∀ j, j ≠ 2 → j < 8 → wlD s.1 (tdX s.2.2.2 0 (tk tp (i + 1))) (tdX s.2.2.2 0 (tk tp (i + 2))) (tk tp (i + 3)).2.2.1 j = s.1 j := fun j z1 z2 => by unfold wlD; rw [updN_ne z1, updN_ne (by omega), updN_ne (by omega)]
        exact fun _ => ⟨⟨WfD_w w1 (by omega) (by omega) t3 v3, WfW_w w1 w2 a6 b6 t3 c2 (by omega), WN_eq w3 (n0 0 (by decide) (by decide)) (n0 1 (by decide) (by decide)), w4.trans (by rw [← n0 0 (by decide) (by decide), ← n0 1 (by decide) (by decide)]), w5⟩, by show i < i + 4; omega, h3⟩
      · rw [if_neg c3]; exact WSx_bad c3
    · rw [if_neg c2]; exact WSx_bad (by decide)
  · rw [if_neg c]; exact WSx_bad c
theorem WS_T {b hi0 : Nat} (hb : (b = 68 ∧ hi0 = 9) ∨ (b = 104 ∧ hi0 = 9) ∨ (b = 140 ∧ hi0 = 99)) (hM : IsM tp M) (hi : i < M) (hW : WS s) : WSx M i (lnT tp s b hi0 i) := by
  unfold lnT
  by_cases c : (twF tp s.2.2.2 20 (i + 1)).1 = 0
  · rw [if_pos c]
    obtain ⟨t1, t2, t3⟩ := twF_0 c
    rw [show i + 1 + 1 = i + 2 from rfl] at t2 t3
    by_cases c2 : s.1 (b + (tdX s.2.2.2 20 (tk tp (i + 1)) * 6 + tdX s.2.2.2 20 (tk tp (i + 2)))) = 0
    · rw [if_pos c2]
      by_cases c3 : nmF (tk tp (i + 3)) 1 hi0 = 0
      · rw [if_pos c3]
        obtain ⟨w1, w2, w3, w4, w5⟩ := hW
        obtain ⟨v1, v2, v3⟩ := nmF_0 c3
        have a6 := ((tdX_lt (T := tk tp (i + 1)) w1 w3).2 t1).1
        have b6 := ((tdX_lt (T := tk tp (i + 2)) w1 w3).2 t2).1
        have h6 := w1.F6
        have h1 := tk_up (j := i + 1) hM hi (by rw [tdF_0 t1]; decide)
        have h2 := tk_up (j := i + 2) hM h1 (by rw [tdF_0 t2]; decide)
        have h3 := tk_up (j := i + 3) hM h2 (by rw [v1]; decide)
        have n0 : ∀ j, j < 68 → updN s.1 (b + (tdX s.2.2.2 20 (tk tp (i + 1)) * 6 + tdX s.2.2.2 20 (tk tp (i + 2)))) (tk tp (i + 3)).2.2.1 j = s.1 j := fun j z1 => updN_ne (by omega)
        exact fun _ => ⟨⟨WfD_t w1 (by omega) (by omega), WfW_eq w2 (n0 2 (by decide)) (Nat.le_of_eq (n0 0 (by decide)).symm) (fun j hj => n0 _ (by omega)), WN_eq w3 (n0 0 (by decide)) (n0 1 (by decide)), w4.trans (by rw [← n0 0 (by decide), ← n0 1 (by decide)]), w5⟩, by show i < i + 4; omega, h3⟩
      · rw [if_neg c3]; exact WSx_bad c3
    · rw [if_neg c2]; exact WSx_bad (by decide)
  · rw [if_neg c]; exact WSx_bad c
theorem WS_C {x : Nat} (hx : x < 2) (hM : IsM tp M) (hi : i < M) (hW : WS s) : WSx M i (lnC tp s x i) := by
  unfold lnC
  by_cases c0 : 4 ≤ s.1 (3 + x)
  · rw [if_pos c0]; exact WSx_bad (by decide)
  · rw [if_neg c0]
    by_cases c : (twF tp s.2.2.2 20 (i + 1)).1 = 0
    · rw [if_pos c]
      obtain ⟨t1, t2, t3⟩ := twF_0 c
      rw [show i + 1 + 1 = i + 2 from rfl] at t2 t3
      obtain ⟨w1, w2, w3, w4, w5⟩ := hW
      have a6 := ((tdX_lt (T := tk tp (i + 1)) w1 w3).2 t1).1
      have b6 := ((tdX_lt (T := tk tp (i + 2)) w1 w3).2 t2).1
      have h1 := tk_up (j := i + 1) hM hi (by rw [tdF_0 t1]; decide)
      have h2 := tk_up (j := i + 2) hM h1 (by rw [tdF_0 t2]; decide)
      have n0 : ∀ j, j < 176 → j ≠ 3 + x → cuD s.1 x (tdX s.2.2.2 20 (tk tp (i + 1))) (tdX s.2.2.2 20 (tk tp (i + 2))) j = s.1 j := fun j z1 z2 => by unfold cuD; rw [updN_ne z2, updN_ne (by omega), updN_ne (by omega)]
      exact fun _ => ⟨⟨WfD_c hx w1 (by omega) a6 b6 t3, WfW_eq w2 (n0 2 (by decide) (by omega)) (Nat.le_of_eq (n0 0 (by decide) (by omega)).symm) (fun j hj => n0 _ (by omega) (by omega)), WN_eq w3 (n0 0 (by decide) (by omega)) (n0 1 (by decide) (by omega)), w4.trans (by rw [← n0 0 (by decide) (by omega), ← n0 1 (by decide) (by omega)]), w5⟩, by show i < i + 3; omega, h2⟩
    · rw [if_neg c]; exact WSx_bad c
theorem WS_F (hM : IsM tp M) (hi : i < M) (hW : WS s) : WSx M i (lnF tp s i) := by
  unfold lnF
  by_cases c0 : s.1 0 ≤ s.1 1
  · rw [if_pos c0]; exact WSx_bad (by decide)
  · rw [if_neg c0]
    by_cases c : (fmF tp s.2.2.2 i).1 = 0
    · rw [if_pos c]
      obtain ⟨f1, f2, f3, f4, f5⟩ := fmF_0 c
      obtain ⟨n1, n2⟩ := nwF_0 f1
      obtain ⟨k1, k2, k3⟩ := kdT_0 f2
      obtain ⟨x3, y3⟩ := trF_0 f3
      obtain ⟨x4, y4⟩ := trF_0 f4
      obtain ⟨x5, y5⟩ := trF_0 f5
      obtain ⟨u1, u2, u3⟩ := nmF_0 y3
      obtain ⟨v1, v2, v3⟩ := nmF_0 y4
      obtain ⟨z1, z2, z3⟩ := nmF_0 y5
      obtain ⟨w1, w2, w3, w4, w5⟩ := hW
      have h6 := w1.F6
      have h06 := w1.2.1
      have g := tkA_w n1
      have e1 := tk_up (j := i + 1) hM hi (by rw [n1]; decide)
      have e2 := tk_up (j := i + 2) hM e1 (by rw [k1]; decide)
      have e3 := tk_up (j := i + 3) hM e2 (by rw [(isW_t.mp x3).1]; decide)
      have e4 := tk_up (j := i + 4) hM e3 (by rw [show (tk tp (i + 4)).1 = 2 from u1]; decide)
      have e5 := tk_up (j := i + 5) hM e4 (by rw [(isW_t.mp x4).1]; decide)
      have e6 := tk_up (j := i + 6) hM e5 (by rw [show (tk tp (i + 6)).1 = 2 from v1]; decide)
      have e7 := tk_up (j := i + 7) hM e6 (by rw [(isW_t.mp x5).1]; decide)
      have e8 := tk_up (j := i + 8) hM e7 (by rw [show (tk tp (i + 8)).1 = 2 from z1]; decide)
      have d1 : ∀ k a e c, fmD s.1 (s.1 1) k a e c 1 = s.1 1 + 1 := fun k a e c => by unfold fmD; rw [updN_at]
      have dn : ∀ k a e c j, j ≠ 1 → ¬ (44 + 4 * s.1 1 ≤ j ∧ j < 48 + 4 * s.1 1) → fmD s.1 (s.1 1) k a e c j = s.1 j := fun k a e c j z1 z2 => by
        unfold fmD
        rw [updN_ne z1, updN_ne (by omega), updN_ne (by omega), updN_ne (by omega), updN_ne (by omega)]
      have W1 := WfD_f (k := (tk tp (i + 2)).2.2.1 - 18) (a := (tk tp (i + 4)).2.2.1) (e := (tk tp (i + 6)).2.2.1) (c := (tk tp (i + 8)).2.2.1) w1 (by omega) (by omega) u3 v3 z3
      have E1 := d1 ((tk tp (i + 2)).2.2.1 - 18) (tk tp (i + 4)).2.2.1 (tk tp (i + 6)).2.2.1 (tk tp (i + 8)).2.2.1
      have EN := dn ((tk tp (i + 2)).2.2.1 - 18) (tk tp (i + 4)).2.2.1 (tk tp (i + 6)).2.2.1 (tk tp (i + 8)).2.2.1
      generalize fmD s.1 (s.1 1) ((tk tp (i + 2)).2.2.1 - 18) (tk tp (i + 4)).2.2.1 (tk tp (i + 6)).2.2.1 (tk tp (i + 8)).2.2.1 = D' at *
      have W2 : WfW D' := WfW_eq w2 (EN 2 (by decide) (by omega)) (Nat.le_of_eq (EN 0 (by decide) (by omega)).symm) (fun j hj => EN _ (by omega) (by omega))
      have W3 : WN D' (s.2.2.2 ++ [((tk tp (i + 1)).2.2.2, 20 + s.1 1)]) := WN_add w3 g.1 g.2.1 (by omega) n2 (fun x hx => by have := (w3.2.1 x hx).1; omega) (Or.inr ⟨by omega, by rw [E1]; omega⟩) (Nat.le_of_eq (EN 0 (by decide) (by omega)).symm) (by rw [E1]; omega) (fun q hq => by rw [EN 0 (by decide) (by omega)] at hq; exact Or.inl hq) (fun q hq => by rw [E1] at hq; omega)
      have W4 : (s.2.2.2 ++ [((tk tp (i + 1)).2.2.2, 20 + s.1 1)]).length = D' 0 + D' 1 := by
        rw [E1, EN 0 (by decide) (by omega), List.length_append, w4]
        rfl
      exact fun _ => ⟨⟨W1, W2, W3, W4, w5⟩, by show i < i + 9; omega, e8⟩
    · rw [if_neg c]; exact WSx_bad c
theorem WS_L {w : Nat} (hM : IsM tp M) (hi : i < M) (hW : WS s) : WSx M i (lnL tp s w i) := by
  unfold lnL
  by_cases c0 : s.2.2.1 w = true
  · rw [if_pos c0]; exact WSx_bad (by decide)
  · rw [if_neg c0]
    by_cases c : (ex tp w (8 * tp.length + 8) 0 0 (i + 1)).1 = 0
    · rw [if_pos c]
      obtain ⟨w1, w2, w3, w4, w5⟩ := hW
      have hy := (ex_ok (w := w) hM (8 * tp.length + 8) 0 (i + 1) hi).1
      refine fun _ => ⟨⟨w1, w2, w3, w4, fun v hv => ?_⟩, by have := hy.2 c; show i < (ex tp w (8 * tp.length + 8) 0 0 (i + 1)).2.1; omega, hy.1.2.1⟩
      show hgl (updP s.2.1 w _ v) 0 = some 1
      unfold updP
      by_cases e : v = w
      · rw [if_pos e]; exact ex_wf c
      · rw [if_neg e]; exact w5 v hv
    · rw [if_neg c]; exact WSx_bad c
theorem WS_A (hM : IsM tp M) (hi : i ≤ M) (hW : WS s) : WSx M i (lnA tp s i) := by
  have him : ∀ w, isW (tk tp i) w = true → i < M := fun w h => tk_w hM hi h
  unfold lnA
  by_cases c0 : isW (tk tp i) 0 = true
  · rw [if_pos c0]; exact WS_H hM (him _ c0) hW
  rw [if_neg c0]
  by_cases c1 : isW (tk tp i) 1 = true
  · rw [if_pos c1]; exact WS_W hM (him _ c1) hW
  rw [if_neg c1]
  by_cases c2 : isW (tk tp i) 2 = true
  · rw [if_pos c2]; exact WS_F hM (him _ c2) hW
  rw [if_neg c2]
  by_cases c6 : isW (tk tp i) 6 = true
  · rw [if_pos c6]; exact WS_T (Or.inl ⟨rfl, rfl⟩) hM (him _ c6) hW
  rw [if_neg c6]
  by_cases c7 : isW (tk tp i) 7 = true
  · rw [if_pos c7]; exact WS_T (Or.inr (Or.inl ⟨rfl, rfl⟩)) hM (him _ c7) hW
  rw [if_neg c7]
  by_cases c8 : isW (tk tp i) 8 = true
  · rw [if_pos c8]; exact WS_T (Or.inr (Or.inr ⟨rfl, rfl⟩)) hM (him _ c8) hW
  rw [if_neg c8]
  by_cases c9 : isW (tk tp i) 9 = true
  · rw [if_pos c9]; exact WS_C (by decide) hM (him _ c9) hW
  rw [if_neg c9]
  by_cases c10 : isW (tk tp i) 10 = true
  · rw [if_pos c10]; exact WS_C (by decide) hM (him _ c10) hW
  rw [if_neg c10]
  by_cases c11 : isW (tk tp i) 11 = true
  · rw [if_pos c11]; exact WS_L hM (him _ c11) hW
  rw [if_neg c11]
  by_cases c12 : isW (tk tp i) 12 = true
  · rw [if_pos c12]; exact WS_L hM (him _ c12) hW
  rw [if_neg c12]
  by_cases c13 : isW (tk tp i) 13 = true
  · rw [if_pos c13]; exact WS_L hM (him _ c13) hW
  rw [if_neg c13]
  exact WSx_bad (by decide)
theorem WS_0 : WS ts0 := by
  refine ⟨⟨by decide, by decide, by decide, by decide, fun _ _ => rfl, fun _ _ _ _ => rfl, fun _ _ => Nat.zero_le _, fun _ _ => ⟨Nat.zero_le _, Nat.zero_le _, Nat.zero_le _, Nat.zero_le _⟩, fun _ _ => ⟨Nat.zero_le _, Nat.zero_le _, Nat.zero_le _⟩, fun k hk => absurd hk (Nat.not_lt_zero k), fun k hk => absurd hk (Nat.not_lt_zero k)⟩, ⟨by decide +kernel, fun a b _ _ z => absurd rfl z⟩, ⟨by decide, fun x hx => absurd hx List.not_mem_nil, fun x hx => absurd hx List.not_mem_nil, fun h hh => absurd hh (Nat.not_lt_zero h), fun h hh => absurd hh (Nat.not_lt_zero h)⟩, rfl, fun w hw => ?_⟩
  exact (by decide +kernel : ∀ w, w < 3 → hgl (dflt w) 0 = some 1) w hw
end KEEPS2
