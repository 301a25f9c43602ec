theorem s_CN {own : String} {idx ci N : Nat} {args : Array Value} {s : State} (hts : ∀ w ∈ q_GT, w.before args s = true) (h : q_CN own idx ci N) : ∃ x : ClassId × (Nat → Nat), ∀ q, q_cl[ci]? = some q → u_Kn s q.1 q.2.1 q.2.2 x.1 x.2 := by
  obtain ⟨C, T, ty, g1, g2, _, _, _, g6, _⟩ := h
  obtain ⟨cC, iS, hk⟩ := u_known hts g2 (hts _ g6)
  refine ⟨(cC, iS), fun q hq => ?_⟩
  rw [g1] at hq
  cases hq
  exact hk
theorem s_cl {args : Array Value} {s : State} (hts : ∀ w ∈ q_GT, w.before args s = true) (ci : Nat) : ∃ x : ClassId × (Nat → Nat), ∀ q, q_cl[ci]? = some q → u_Kn s q.1 q.2.1 q.2.2 x.1 x.2 := by
  match ci with
  | 0 => exact s_CN hts cn_W_90
  | 1 => exact s_CN hts cn_W_41
  | 2 => exact s_CN hts cn_Tw_49
  | 3 => exact s_CN hts cn_W_55
  | 4 => exact s_CN hts cn_W_25
  | 5 => exact s_CN hts cn_W_48
  | 6 => exact s_CN hts cn_W_7
  | 7 => exact s_CN hts cn_W_16
  | 8 => exact s_CN hts cn_W_80
  | 9 => exact s_CN hts cn_W_34
  | 10 => exact s_CN hts cn_L_8
  | 11 => exact s_CN hts cn_L_26
  | n + 12 => exact ⟨((0 : Nat), fun _ => 0), fun q h => by cases h⟩
theorem s_aP {args : Array Value} {s : State} {ty : FieldType} (hp : ∀ c, (s.vm.findClass ("[" ++ ty.toString) = some c) → va_RA s c ty) (h : (Cond.arrayClass ty).before args s = true) : ∃ cA : ClassId, ArrOfT s cA ty ∧ va_RA s cA ty := by
  obtain ⟨c, k, comp, h1, h2, h3⟩ := Cond.arrayClass_spec h
  exact ⟨c, fun n z => ⟨fun k h => (by cases h), k, h2, comp, h3⟩, hp c h1⟩
theorem s_aO {args : Array Value} {s : State} {C : String} (h : (Cond.arrayOver (.object C)).before args s = true) : ∃ cA : ClassId, ArrOfT s cA (.object C) ∧ va_RA s cA (.object C) := by
  obtain ⟨comp, c, k, h1, h2, h3, h4, h5⟩ := Cond.arrayOver_spec h
  exact ⟨c, fun n z => ⟨fun k h => (by cases h), k, h3, comp, h4⟩, k, comp, h3, h4, h1, h5⟩
theorem s_Teq {ty : FieldType} {t N : Nat} {f g : Nat → Value} {A : Nat → Prop} {U : State} {H : Heap} (h : va_T ty t N f A U H) (e : ∀ j, j < N → f j = g j) : va_T ty t N g A U H := by
  obtain ⟨cell, h1, h2, h3, h4, h5, h6, h7⟩ := h
  exact ⟨cell, h1, h2, h3, h4, h5, fun j hj => by rw [← e j hj]; exact h6 j hj, h7⟩
theorem s_inj {s : State} {t i j : Nat} {A : Nat → Prop} {H : Heap} (hi : i < 34) (hj : j < 34) (h1 : va_OF "java/lang/Enum" "ordinal" "I" (.int (nI i)) t A s H) (h2 : va_OF "java/lang/Enum" "ordinal" "I" (.int (nI j)) t A s H) : i = j := by
  obtain ⟨cf, k, x, f, cell, a1, a2, a3, a4, a5, a6⟩ := h1
  obtain ⟨cf', k', x', f', cell', b1, b2, b3, b4, b5, b6⟩ := h2
  rw [a1] at b1
  cases b1
  rw [a3] at b3
  cases b3
  rw [a5] at b5
  have e : nI i = nI j := by
    have := Option.some.inj b5
    exact Value.int.inj this
  exact (nI_eq (by omega) (by omega)).mp e
def s_sa (b : Nat) (wa : Nat → Nat) (t0 t1 t2 t3 t4 : Nat) (n : Nat) : Nat := if n = 1000 then b else if n < 1035 then wa (n - 1001) else if n = 1040 then t0 else if n = 1041 then t1 else if n = 1042 then t2 else if n = 1043 then t3 else t4
theorem s_saW {b : Nat} {wa : Nat → Nat} {t0 t1 t2 t3 t4 k : Nat} (h : k < 34) : s_sa b wa t0 t1 t2 t3 t4 (1001 + k) = wa k := by
  unfold s_sa
  rw [if_neg (by omega), if_pos (by omega)]
  exact congrArg wa (by omega)
theorem start_fx {s : State} {b L : Nat} {xs : Nat → Int32} (l : Launch) (hts : ∀ w ∈ lw_tbl, w.before #[Value.ref b] s = true) (hgv : (Jvm.Cond.and given_1 narrow_1).before #[Value.ref b] s = true) (hX : va_X b L xs s s.heap) (hb : b < s.heap.size) :
    ∃ G : q_G, g_l G = l ∧ g_b G = s.heap.size ∧ g_sa G 1000 = b ∧ g_L G = L ∧ g_xs G = xs ∧ q_FX G s s.heap := by
  have fl := y_flat _ hgv
  have f9 : ∀ w : Cond, _ → w.before #[Value.ref b] s = true := fun w hw => fl w (of_decide_eq_true (List.all_eq_true.mp y9 w hw))
  have f11 : ∀ w : Cond, _ → w.before #[Value.ref b] s = true := fun w hw => hts w (of_decide_eq_true (List.all_eq_true.mp y11 w hw))
  have ev : ∀ {t u : Term} {v : Value}, (Cond.eq t u).before #[Value.ref b] s = true → u.eval #[Value.ref b] s none [] s = some v → t.eval #[Value.ref b] s none [] s = some v := fun h hu => va_eqI (Cond.before_iff.mp h) hu
  have hG : ∀ w ∈ q_GT, w.before #[Value.ref b] s = true := fun w hw => hts w (List.mem_filter.mp hw).1
  have hA : ∀ a : Nat, a < s.heap.size → ¬ (fun q => s.heap.size ≤ q) a := fun a h => Nat.not_le.mpr h
  -- the words
  have hwa : ∀ k, ∃ a : Nat, k < 34 → (y_W k).eval #[Value.ref b] s none [] s = some (.ref a) := fun k => by
    by_cases h : k < 34
    · obtain ⟨a2, c, cA, kA, q1, _⟩ := Cond.exactly_spec (args := #[Value.ref b]) (first := s) (o := none) (s := s) (idx := []) (t := y_W k) (cls := "WallLottery$Word") (fl _ (y1 k h))
      exact ⟨a2, fun _ => q1⟩
    · exact ⟨0, fun g => absurd g h⟩
  obtain ⟨wa, hwa⟩ := Classical.axiomOfChoice hwa
  -- the rows
  obtain ⟨t0, e0, T0⟩ := va_Tof (A := fun q => s.heap.size ≤ q) (tm := .static "WallLottery" "WORDS" "[LWallLottery$Word;") (ty := .object "WallLottery$Word") (N := 34) (f := fun j => .ref (wa j)) (by decide) (f9 _ (by decide +kernel)) (ev (f9 (Cond.eq (.length (.static "WallLottery" "WORDS" "[LWallLottery$Word;")) (.int (Int32.ofNat 34))) (by decide +kernel)) rfl) (fun j hj => ev (fl _ (y5 j hj)) (hwa j hj)) hA
  obtain ⟨t1, e1, T1⟩ := va_Tof (A := fun q => s.heap.size ≤ q) (tm := .static "WallLottery$Laws" "UNTOLD" "[I") (ty := .int) (N := 15) (f := fun j => .int (q_unt.getD j 0)) (by decide) (f9 _ (by decide +kernel)) (ev (f9 (Cond.eq (.length (.static "WallLottery$Laws" "UNTOLD" "[I")) (.int (Int32.ofNat 15))) (by decide +kernel)) rfl) (fun j hj => ev (fl _ (y6 j hj)) rfl) hA
  obtain ⟨t2, e2, T2⟩ := va_Tof (A := fun q => s.heap.size ≤ q) (tm := .static "WallLottery$1" "$SwitchMap$WallLottery$Word" "[I") (ty := .int) (N := 34) (f := fun j => .int (q_smap.getD j 0)) (by decide) (f9 _ (by decide +kernel)) (ev (f9 (Cond.eq (.length (.static "WallLottery$1" "$SwitchMap$WallLottery$Word" "[I")) (.int (Int32.ofNat 34))) (by decide +kernel)) rfl) (fun j hj => ev (fl _ (y7 j hj)) rfl) hA
  have hstr : (Cond.exactly y_St "java/lang/String").before #[Value.ref b] s = true := f9 _ (by decide +kernel)
  obtain ⟨t3, c3, cA3, kA3, e3, _⟩ := Cond.exactly_spec (args := #[Value.ref b]) (first := s) (o := none) (s := s) (idx := []) (t := y_St) (cls := "java/lang/String") hstr
  obtain ⟨t4, e4, T4⟩ := va_Tof (A := fun q => s.heap.size ≤ q) (tm := .field y_St "java/lang/String" "value" "[B") (ty := .byte) (N := 8) (f := fun j => .int (q_sgn.getD j 0)) (by decide) (f9 _ (by decide +kernel)) (ev (f9 (Cond.eq (.length (.field y_St "java/lang/String" "value" "[B")) (.int (Int32.ofNat 8))) (by decide +kernel)) rfl) (fun j hj => ev (fl _ (y8 j hj)) rfl) hA
  -- the classes
  obtain ⟨cf, hcf⟩ := Classical.axiomOfChoice (s_cl hG)
  obtain ⟨a0, hA0⟩ := s_aP (ty := .int) (fun c h => h) (f11 _ (by decide +kernel))
  obtain ⟨a1, hA1⟩ := s_aP (ty := .long) (fun c h => h) (f11 _ (by decide +kernel))
  obtain ⟨a2, hA2⟩ := s_aP (ty := .boolean) (fun c h => h) (f11 _ (by decide +kernel))
  obtain ⟨a3, hA3⟩ := s_aP (ty := .char) (fun c h => h) (f11 _ (by decide +kernel))
  obtain ⟨a4, hA4⟩ := s_aO (C := "WallLottery$Life") (f11 _ (by decide +kernel))
  obtain ⟨a5, hA5⟩ := s_aO (C := "WallLottery$Tales") (f11 _ (by decide +kernel))
  refine ⟨(l, s.heap.size, s_sa b wa t0 t1 t2 t3 t4, (fun c => (cf c).1, fun c => (cf c).2), (fun i => match i with | 0 => a0 | 1 => a1 | 2 => a2 | 3 => a3 | 4 => a4 | _ => a5), L, xs), rfl, rfl, rfl, rfl, rfl, ⟨fun c q hq => hcf c q hq, fun k q hk => ?_⟩, fun w hw => ?_, ?_⟩
  · match k, hk with
    | 0, hk => cases hk; exact hA0
    | 1, hk => cases hk; exact hA1
    | 2, hk => cases hk; exact hA2
    | 3, hk => cases hk; exact hA3
    | 4, hk => cases hk; exact hA4
    | 5, hk => cases hk; exact hA5
    | k + 6, hk => cases hk
  · have h1 := hts w (List.mem_filter.mp hw).1
    have h2 : vx_ot w = true := by
      unfold vx_ot
      rw [q_nest_ok w hw]
      rfl
    exact vx_ot_at (a' := #[]) (State.WarmedH.refl s) rfl h2 h1
  · have word : ∀ k, k < 34 → va_Z "WallLottery$Word" (q_wn.getD k "") "LWallLottery$Word;" (.ref (wa k)) (fun q => s.heap.size ≤ q) s s.heap ∧ va_O "WallLottery$Word" (wa k) (fun q => s.heap.size ≤ q) s s.heap ∧ va_OF "java/lang/Enum" "ordinal" "I" (.int (nI k)) (wa k) (fun q => s.heap.size ≤ q) s s.heap ∧ va_OF "WallLottery$Word" "letters" "J" (.long (q_wl64.getD k 0)) (wa k) (fun q => s.heap.size ≤ q) s s.heap ∧ va_OF "WallLottery$Word" "canBeName" "Z" (.int (q_wcn.getD k 0)) (wa k) (fun q => s.heap.size ≤ q) s s.heap := fun k hk =>
      ⟨va_Zof (hts _ (y10 k hk)) (f11 _ (by decide +kernel)) (hwa k hk) hA, va_Oof (fl _ (y1 k hk)) (hwa k hk) hA, vk_OFof (hwa k hk) (ev (fl _ (y2 k hk)) rfl) hA, vk_OFof (hwa k hk) (ev (fl _ (y3 k hk)) rfl) hA, vk_OFof (hwa k hk) (ev (fl _ (y4 k hk)) rfl) hA⟩
    refine ⟨fun k hk => ?_, fun i j hi hj e => ?_, ⟨va_Zof (f11 _ (by decide +kernel)) (f11 _ (by decide +kernel)) e0 hA, s_Teq T0 (fun j hj => ?_)⟩, ⟨va_Zof (f11 _ (by decide +kernel)) (f11 _ (by decide +kernel)) e1 hA, T1⟩, ⟨va_Zof (f11 _ (by decide +kernel)) (f11 _ (by decide +kernel)) e2 hA, T2⟩, ⟨hX, hA b hb⟩, ⟨vk_R.of (f11 _ (by decide +kernel)) e3, va_Oof hstr e3 hA, vk_OFof e3 e4 hA, vk_OFof e3 (ev (f9 (Cond.eq (.field y_St "java/lang/String" "coder" "B") (.int 0)) (by decide +kernel)) rfl) hA, T4, va_Zof (f11 _ (by decide +kernel)) (f11 _ (by decide +kernel)) (ev (f9 (Cond.eq (.static "java/lang/String" "COMPACT_STRINGS" "Z") (.int 1)) (by decide +kernel)) rfl) hA⟩, ⟨vx_Zqof (f11 _ (by decide +kernel)) (f11 _ (by decide +kernel)) (f9 _ (by decide +kernel)) hA, vx_Zqof (f11 _ (by decide +kernel)) (f11 _ (by decide +kernel)) (f9 _ (by decide +kernel)) hA⟩, va_AO.of (f11 _ (by decide +kernel)), va_AO.of (f11 _ (by decide +kernel))⟩
    · have := word k hk
      rw [← s_saW (b := b) (wa := wa) (t0 := t0) (t1 := t1) (t2 := t2) (t3 := t3) (t4 := t4) hk] at this
      exact this
    · have e' : wa i = wa j := by
        have := e
        change s_sa b wa t0 t1 t2 t3 t4 (1001 + i) = s_sa b wa t0 t1 t2 t3 t4 (1001 + j) at this
        rwa [s_saW hi, s_saW hj] at this
      have h1 := (word i hi).2.2.1
      rw [e'] at h1
      exact s_inj hi hj h1 (word j hj).2.2.1
    · show Value.ref (wa j) = Value.ref (s_sa b wa t0 t1 t2 t3 t4 (1001 + j))
      rw [s_saW hj]
