
-- a store in small: how many cells there are; ints, longs, references by cell and place
abbrev q_S : Type := Nat × (Nat → Nat → Int32) × (Nat → Nat → Int64) × (Nat → Nat → Option Nat)
def q_n (σ : q_S) : Nat := σ.1
def q_I (σ : q_S) : Nat → Nat → Int32 := σ.2.1
def q_L (σ : q_S) : Nat → Nat → Int64 := σ.2.2.1
def q_R (σ : q_S) : Nat → Nat → Option Nat := σ.2.2.2
def q_setI (σ : q_S) (a i : Nat) (v : Int32) : q_S := (σ.1, fun a' i' => if a' = a ∧ i' = i then v else σ.2.1 a' i', σ.2.2)
def q_setL (σ : q_S) (a i : Nat) (v : Int64) : q_S := (σ.1, σ.2.1, fun a' i' => if a' = a ∧ i' = i then v else σ.2.2.1 a' i', σ.2.2.2)
def q_setR (σ : q_S) (a i : Nat) (v : Option Nat) : q_S := (σ.1, σ.2.1, σ.2.2.1, fun a' i' => if a' = a ∧ i' = i then v else σ.2.2.2 a' i')
def q_new (σ : q_S) : q_S := (σ.1 + 1, fun a' i' => if a' = σ.1 then 0 else σ.2.1 a' i', fun a' i' => if a' = σ.1 then 0 else σ.2.2.1 a' i', fun a' i' => if a' = σ.1 then none else σ.2.2.2 a' i')
-- what a run stands on: launch, the first new cell's address, where the old cells lie that are only read, classes, array classes, the script
abbrev q_G : Type := Launch × Nat × (Nat → Nat) × va_G × (Nat → ClassId) × Nat × (Nat → Int32)
def g_l (G : q_G) : Launch := G.1
def g_b (G : q_G) : Nat := G.2.1
def g_sa (G : q_G) : Nat → Nat := G.2.2.1
def g_D (G : q_G) : va_G := G.2.2.2.1
def g_cA (G : q_G) : Nat → ClassId := G.2.2.2.2.1
def g_L (G : q_G) : Nat := G.2.2.2.2.2.1
def g_xs (G : q_G) : Nat → Int32 := G.2.2.2.2.2.2
def q_A (G : q_G) : Nat → Prop := fun q => g_b G ≤ q
def q_ad (G : q_G) (k : Nat) : Nat := if k < 1000 then g_b G + k else g_sa G k
def q_cv (G : q_G) : Value → Value
  | .ref a => .ref (q_ad G a)
  | v => v
-- a method: name, code, locals, what it returns
abbrev q_M : Type := MethodName × ByteArray × Nat × Option FieldType
def m_y (X : q_M) : MethodName := X.1
def m_b (X : q_M) : ByteArray := X.2.1
def m_m (X : q_M) : Nat := X.2.2.1
def m_r (X : q_M) : Option FieldType := X.2.2.2
def q_ws (X : q_M) : List Cond := Cond.code (m_y X) (m_b X) (m_m X) (m_r X) :: q_GT
-- cells
def q_fv (G : q_G) (σ : q_S) (k j ty : Nat) : Value := match ty with
  | 0 => .int (q_I σ k j)
  | 1 => .long (q_L σ k j)
  | _ => va_rf ((q_R σ k j).map (q_ad G))
def q_fs (G : q_G) (σ : q_S) (k ci : Nat) : List Value := (q_fl ci).zipIdx.map (fun x => q_fv G σ k x.2 x.1)
def q_ent (G : q_G) (σ : q_S) (k : Nat) : va_E := match q_kd k with
  | (0, ci) => .inr (ci, q_fs G σ k ci)
  | (1, n) => .inl (g_cA G 0, n, .inl (q_I σ k))
  | (2, n) => .inl (g_cA G 1, n, .inr (.inl (q_L σ k)))
  | (3, n) => .inl (g_cA G 2, n, .inl (q_I σ k))
  | (4, n) => .inl (g_cA G 3, n, .inl (q_I σ k))
  | (5, n) => .inl (g_cA G 4, n, .inr (.inr (.inr (.inr fun j => (q_R σ k j).map (q_ad G)))))
  | (_, n) => .inl (g_cA G 5, n, .inr (.inr (.inr (.inr fun j => (q_R σ k j).map (q_ad G)))))
def q_wl (G : q_G) (σ : q_S) : va_W := (List.range (q_n σ)).map fun k => (g_b G + k, q_ent G σ k)
def q_tys (G : q_G) : List (ClassId × FieldType) := [(g_cA G 0, .int), (g_cA G 1, .long), (g_cA G 2, .boolean), (g_cA G 3, .char), (g_cA G 4, .object "WallLottery$Life"), (g_cA G 5, .object "WallLottery$Tales")]
def q_Rep (G : q_G) (σ : q_S) (H : Heap) : Prop := va_P (g_D G) q_cl (q_wl G σ) H
-- while cells are made their number is known
def q_Z (G : q_G) (σ : q_S) (n : Nat) : Prop := q_n σ < q_NT → n ≤ g_b G + q_n σ
theorem q_wl_get {G : q_G} {σ : q_S} {k : Nat} (h : k < q_n σ) : (q_wl G σ)[k]? = some (g_b G + k, q_ent G σ k) := by
  simp [q_wl, h]
theorem q_wl_D (G : q_G) (σ : q_S) : va_D (q_A G) (q_wl G σ) := by
  refine ⟨fun i j p q hi hj he => ?_, fun k q hk => ?_⟩
  · simp only [q_wl, List.getElem?_map, Option.map_eq_some_iff] at hi hj
    obtain ⟨a, ha, rfl⟩ := hi
    obtain ⟨b, hb, rfl⟩ := hj
    rw [List.getElem?_eq_some_iff] at ha hb
    obtain ⟨_, ha⟩ := ha
    obtain ⟨_, hb⟩ := hb
    simp at ha hb he
    omega
  · simp only [q_wl, List.getElem?_map, Option.map_eq_some_iff] at hk
    obtain ⟨a, ha, rfl⟩ := hk
    show g_b G ≤ g_b G + a
    omega
theorem q_wl_set {G : q_G} {σ σ' : q_S} {k : Nat} {e : va_E} (hn : q_n σ' = q_n σ) (he : e = q_ent G σ' k) (ho : ∀ j, j ≠ k → q_ent G σ' j = q_ent G σ j) : (q_wl G σ).set k (g_b G + k, e) = q_wl G σ' := by
  apply List.ext_getElem?
  intro i
  rw [List.getElem?_set]
  simp only [q_wl, hn, List.length_map, List.length_range, List.getElem?_map]
  by_cases hi : k = i
  · subst hi
    by_cases hl : k < q_n σ
    · simp [hl, he]
    · simp [hl]
  · rw [if_neg hi]
    by_cases hl : i < q_n σ
    · simp [hl, ho i (fun h => hi h.symm)]
    · simp [hl]
-- words that nest mates need, facts of the old cells: by the state and the heap
def q_isNest (w : Cond) : Bool := match w with
  | .methodLinkNest .. => true
  | .fieldLinkNest .. => true
  | .castable .. => true
  | .declares .. => true
  | _ => false
def q_nest : List Cond := lw_tbl.filter q_isNest
theorem q_inN {i : Nat} {w : Cond} (h : lw_tbl[i]? = some w) (hg : q_isNest w = true) : w ∈ q_nest := List.mem_filter.mpr ⟨List.mem_of_getElem? h, hg⟩
theorem q_nest_ok : ∀ w ∈ q_nest, w.onTables = true := by
  intro w hw
  have h2 := (List.mem_filter.mp hw).2
  cases w <;> first | rfl | (exfalso; simp [q_isNest] at h2; done)
def q_NX (U : State) : Prop := ∀ w ∈ q_nest, va_Nw w U
theorem q_NX.warm {s U : State} (hW : s.WarmedH U.vm) (h : q_NX s) : q_NX U := by
  intro w hw
  have h1 := h w hw
  have h2 := (List.mem_filter.mp hw).2
  cases w <;> first | exact va_Nw.warmM hW h1 | exact va_Nw.warmF hW h1 | exact va_Nw.warmC hW h1 | exact va_Nw.warmD hW h1 | (exfalso; simp [q_isNest] at h2; done)

-- the old cells that are only read: 1000 the script, 1001 + k the words, 1040 the row of words, 1041 the untold laws, 1042 the switch's map, 1043 the text of signs, 1044 its bytes
def q_wn : List String := ["HOUSE", "WALL", "FAMILY", "LOUD", "EARS", "COINS", "LIKE", "HATE", "OWES", "APART", "BESIDE", "NOISE", "JOY", "HEDGE", "DRAW", "SWAP", "LEND", "PAY", "PLAIN", "FIDDLER", "SLEEPER", "LAWYER", "NOT", "AND", "OR", "LOUDNESS", "HEARING", "BRICK", "FOND", "FELT", "NEAR", "MINE", "HIS", "FREE"]
def q_wl64 : List Int64 := [8902245, 755084, 202810777, 409252, 165459, 3646931, 402789, 263813, 515251, 1574484, 72983685, 15181413, 10745, 8556773, 149559, 646192, 398788, 16441, 17171758, 6748778674, 20809171122, 404481202, 14836, 1476, 498, 429132289651, 8759354823, 2696299, 212420, 202132, 463922, 435653, 8499, 0]
def q_wcn : List Int32 := [0, 0, 0, 0, 0, 0, 0, 0, 0, 0, 0, 0, 0, 0, 0, 0, 0, 0, 0, 0, 0, 0, 0, 0, 0, 1, 1, 1, 1, 1, 1, 1, 1, 1]
def q_unt : List Int32 := [(-1), (-2), (-9), (-3), (-10), (-1), (-2), (-10), (-2), 2, (-11), (-1), (-10), (-3), (-9)]
def q_smap : List Int32 := [13, 14, 15, 0, 0, 0, 16, 17, 18, 19, 20, 21, 22, 23, 24, 25, 26, 27, 1, 2, 3, 4, 0, 0, 0, 5, 6, 7, 8, 9, 10, 11, 12, 0]
def q_sgn : List Int32 := [40, 41, 60, 61, 43, 45, 42, 59]
def q_SX (G : q_G) (U : State) (H : Heap) : Prop :=
  (∀ k, k < 34 → va_Z "WallLottery$Word" (q_wn.getD k "") "LWallLottery$Word;" (.ref (g_sa G (1001 + k))) (q_A G) U H ∧ va_O "WallLottery$Word" (g_sa G (1001 + k)) (q_A G) U H ∧ va_OF "java/lang/Enum" "ordinal" "I" (.int (nI k)) (g_sa G (1001 + k)) (q_A G) U H ∧ va_OF "WallLottery$Word" "letters" "J" (.long (q_wl64.getD k 0)) (g_sa G (1001 + k)) (q_A G) U H ∧ va_OF "WallLottery$Word" "canBeName" "Z" (.int (q_wcn.getD k 0)) (g_sa G (1001 + k)) (q_A G) U H) ∧
  (∀ i j, i < 34 → j < 34 → g_sa G (1001 + i) = g_sa G (1001 + j) → i = j) ∧
  (va_Z "WallLottery" "WORDS" "[LWallLottery$Word;" (.ref (g_sa G 1040)) (q_A G) U H ∧ va_T (.object "WallLottery$Word") (g_sa G 1040) 34 (fun j => .ref (g_sa G (1001 + j))) (q_A G) U H) ∧
  (va_Z "WallLottery$Laws" "UNTOLD" "[I" (.ref (g_sa G 1041)) (q_A G) U H ∧ va_T .int (g_sa G 1041) 15 (fun j => .int (q_unt.getD j 0)) (q_A G) U H) ∧
  (va_Z "WallLottery$1" "$SwitchMap$WallLottery$Word" "[I" (.ref (g_sa G 1042)) (q_A G) U H ∧ va_T .int (g_sa G 1042) 34 (fun j => .int (q_smap.getD j 0)) (q_A G) U H) ∧
  (va_X (g_sa G 1000) (g_L G) (g_xs G) U H ∧ ¬ q_A G (g_sa G 1000)) ∧
  (vk_R "WallLottery$Tokens" 77 "()<=+-*;" (g_sa G 1043) U ∧ va_O "java/lang/String" (g_sa G 1043) (q_A G) U H ∧ va_OF "java/lang/String" "value" "[B" (.ref (g_sa G 1044)) (g_sa G 1043) (q_A G) U H ∧ va_OF "java/lang/String" "coder" "B" (.int 0) (g_sa G 1043) (q_A G) U H ∧ va_T .byte (g_sa G 1044) 8 (fun j => .int (q_sgn.getD j 0)) (q_A G) U H ∧ va_Z "java/lang/String" "COMPACT_STRINGS" "Z" (.int 1) (q_A G) U H) ∧
  (vx_Zq Bundle.tN "UNASSIGNED_STACK" Bundle.steD (q_A G) U H ∧ vx_Zq Bundle.tN "SUPPRESSED_SENTINEL" Bundle.listD (q_A G) U H) ∧
  (va_AO "WallLottery$Life" U ∧ va_AO "WallLottery$Tales" U)
theorem q_X_alike {b L : Nat} {xs : Nat → Int32} {u U : State} {H : Heap} (hvm : u.vm.Alike U.vm) (h : va_X b L xs u H) : va_X b L xs U H := by
  obtain ⟨scr, h1, h2, h3, h4, h5⟩ := h
  exact ⟨scr, h1, State.isArrayOf_alike hvm h2, h3, h4, h5⟩
theorem q_SX.alike {G : q_G} {s U : State} {H : Heap} (hv : s.vm.Alike U.vm) (hk : ∀ a, vk_R "WallLottery$Tokens" 77 "()<=+-*;" a s → vk_R "WallLottery$Tokens" 77 "()<=+-*;" a U) (h : q_SX G s H) : q_SX G U H := by
  obtain ⟨h1, h2, h3, h4, h5, h6, h7, h8, h9⟩ := h
  exact ⟨fun k hk => ⟨va_Z.moved hv (h1 k hk).1, va_O.moved hv (h1 k hk).2.1, va_OF.moved hv (h1 k hk).2.2.1, va_OF.moved hv (h1 k hk).2.2.2.1, va_OF.moved hv (h1 k hk).2.2.2.2⟩, h2, ⟨va_Z.moved hv h3.1, va_T.moved hv h3.2⟩, ⟨va_Z.moved hv h4.1, va_T.moved hv h4.2⟩, ⟨va_Z.moved hv h5.1, va_T.moved hv h5.2⟩, ⟨q_X_alike hv h6.1, h6.2⟩, ⟨hk _ h7.1, va_O.moved hv h7.2.1, va_OF.moved hv h7.2.2.1, va_OF.moved hv h7.2.2.2.1, va_T.moved hv h7.2.2.2.2.1, va_Z.moved hv h7.2.2.2.2.2⟩, ⟨vx_Zq.moved hv h8.1, vx_Zq.moved hv h8.2⟩, ⟨va_AO.moved hv h9.1, va_AO.moved hv h9.2⟩⟩
theorem q_SX.warm {G : q_G} {s U : State} {H : Heap} (hW : s.WarmedH U.vm) (h : q_SX G s H) : q_SX G U H := h.alike hW.alike (fun _ h => vk_R.warm hW h)
theorem q_SX.kept {G : q_G} {s : State} {H H1 : Heap} (h : q_SX G s H) (hq : ∀ a : Nat, a < H.size → ¬ q_A G a → H1[a]? = H[a]?) : q_SX G s H1 := by
  obtain ⟨h1, h2, h3, h4, h5, h6, h7, h8, h9⟩ := h
  refine ⟨fun k hk => ⟨(h1 k hk).1.kept hq, (h1 k hk).2.1.kept hq, (h1 k hk).2.2.1.kept hq, (h1 k hk).2.2.2.1.kept hq, (h1 k hk).2.2.2.2.kept hq⟩, h2, ⟨h3.1.kept hq, h3.2.kept hq⟩, ⟨h4.1.kept hq, h4.2.kept hq⟩, ⟨h5.1.kept hq, h5.2.kept hq⟩, ⟨?_, h6.2⟩, ⟨h7.1, h7.2.1.kept hq, h7.2.2.1.kept hq, h7.2.2.2.1.kept hq, h7.2.2.2.2.1.kept hq, h7.2.2.2.2.2.kept hq⟩, ⟨vx_Zq.kept h8.1 hq, vx_Zq.kept h8.2 hq⟩, h9⟩
  obtain ⟨scr, g1, g2, g3, g4, g5⟩ := h6.1
  exact ⟨scr, by rw [hq _ (Array.getElem?_eq_some_iff.mp g1).1 h6.2]; exact g1, g2, g3, g4, g5⟩

theorem q_SX.calling {G : q_G} {U : State} {H : Heap} {g : JFrame} {mk : MethodId} {a : Array Value} (h : q_SX G U H) : q_SX G (U.calling g mk a) H := q_SX.alike (s := U) (U := U.calling g mk a) (Vm.Alike.refl U.vm) (fun _ h => vk_R.same (u := U) (U := U.calling g mk a) rfl h) h
def q_FX (G : q_G) (U : State) (H : Heap) : Prop := va_K (g_D G) q_cl (q_tys G) U ∧ q_NX U ∧ q_SX G U H
theorem q_FX.warm {G : q_G} {s U : State} {H : Heap} (hW : s.WarmedH U.vm) (h : q_FX G s H) : q_FX G U H := ⟨va_K.moved hW.alike h.1, h.2.1.warm hW, h.2.2.warm hW⟩
theorem q_FX.kept {G : q_G} {s : State} {H H1 : Heap} (h : q_FX G s H) (hq : ∀ a : Nat, a < H.size → ¬ q_A G a → H1[a]? = H[a]?) : q_FX G s H1 := ⟨h.1, h.2.1, h.2.2.kept hq⟩
-- locals
def q_lv (G : q_G) (ls : List (Option Value)) : List (Nat × Value) := ls.zipIdx.filterMap fun x => x.1.map fun v => (x.2, q_cv G v)
theorem q_lv_mem {G : q_G} {ls : List (Option Value)} {i : Nat} {w : Value} : (i, w) ∈ q_lv G ls ↔ ∃ v, ls[i]? = some (some v) ∧ w = q_cv G v := by
  simp only [q_lv, List.mem_filterMap, Prod.exists, List.mem_zipIdx_iff_getElem?, Option.map_eq_some_iff, Prod.mk.injEq]
  constructor
  · rintro ⟨a, b, h1, v, h2, h3, h4⟩
    subst h2
    subst h3
    exact ⟨v, h1, h4.symm⟩
  · rintro ⟨v, h1, h2⟩
    exact ⟨some v, i, h1, v, rfl, rfl, h2.symm⟩
theorem q_lv_get {G : q_G} {lsr : Array Slot} {n : Nat} {ls : List (Option Value)} {i : Nat} {v : Value} (h : lv_has lsr n (q_lv G ls)) (hi : ls[i]? = some (some v)) : lsr[i]? = some (.val (q_cv G v)) := h.2.2 (i, q_cv G v) (q_lv_mem.mpr ⟨v, hi, rfl⟩)
-- storing: a place of one slot; a long that ends there goes
def q_st1 (ls : List (Option Value)) (i : Nat) (v : Value) : List (Option Value) :=
  match i with
  | 0 => ls.set 0 (some v)
  | j + 1 => match ls[j]? with
    | some (some (.long _)) => (ls.set j none).set (j + 1) (some v)
    | some (some (.double _)) => (ls.set j none).set (j + 1) (some v)
    | _ => ls.set (j + 1) (some v)
def q_st2 (ls : List (Option Value)) (i : Nat) (v : Value) : List (Option Value) := (q_st1 ls i v).set (i + 1) none
theorem q_cat (G : q_G) (v : Value) : (q_cv G v).category = v.category := by cases v <;> rfl
theorem q_st1_get {ls : List (Option Value)} {i : Nat} {v : Value} {j : Nat} {w : Value} (h : (q_st1 ls i v)[j]? = some (some w)) : (j = i ∧ w = v) ∨ (j ≠ i ∧ ls[j]? = some (some w) ∧ ¬ (j + 1 = i ∧ w.category = 2)) := by
  cases i with
  | zero =>
    simp only [q_st1, List.getElem?_set] at h
    by_cases hj : 0 = j
    · subst hj
      simp only [if_pos] at h
      split at h <;> simp_all
    · rw [if_neg hj] at h
      exact Or.inr ⟨fun e => hj e.symm, h, fun e => by omega⟩
  | succ k =>
    by_cases hj : j = k + 1
    · left
      refine ⟨hj, ?_⟩
      subst hj
      simp only [q_st1] at h
      split at h <;> (simp only [List.getElem?_set] at h; simp at h; first | exact h.2.symm | simp_all)
    · right
      refine ⟨hj, ?_⟩
      simp only [q_st1] at h
      split at h
      · rename_i x hx
        rw [List.getElem?_set_ne (fun e => hj e.symm)] at h
        by_cases hk : j = k
        · subst hk
          simp only [List.getElem?_set] at h
          simp at h
        · rw [List.getElem?_set_ne (fun e => hk e.symm)] at h
          exact ⟨h, fun e => hk (by omega)⟩
      · rename_i x hx
        rw [List.getElem?_set_ne (fun e => hj e.symm)] at h
        by_cases hk : j = k
        · subst hk
          simp only [List.getElem?_set] at h
          simp at h
        · rw [List.getElem?_set_ne (fun e => hk e.symm)] at h
          exact ⟨h, fun e => hk (by omega)⟩
      · rename_i h1 h2
        rw [List.getElem?_set_ne (fun e => hj e.symm)] at h
        refine ⟨h, ?_⟩
        rintro ⟨e, hc⟩
        have e2 : j = k := by omega
        subst e2
        cases w <;> simp [Value.category] at hc
        · exact h1 _ h
        · exact h2 _ h
theorem q_lv_st1 {G : q_G} {lsr : Array Slot} {n : Nat} {ls : List (Option Value)} {i : Nat} {v : Value} (h : lv_has lsr n ((i, q_cv G v) :: (q_lv G ls).filter (fun q => !(q.1 == i) && !(q.1 + 1 == i && q.2.category == 2)))) : lv_has lsr n (q_lv G (q_st1 ls i v)) := by
  refine ⟨h.1, h.2.1, fun q hq => h.2.2 q ?_⟩
  obtain ⟨j, w⟩ := q
  obtain ⟨x, hx, rfl⟩ := q_lv_mem.mp hq
  rcases q_st1_get hx with ⟨rfl, rfl⟩ | ⟨h1, h2, h3⟩
  · exact List.mem_cons_self
  · refine List.mem_cons_of_mem _ (List.mem_filter.mpr ⟨q_lv_mem.mpr ⟨x, h2, rfl⟩, ?_⟩)
    simp only [q_cat]
    simp [h1]
    exact Classical.not_and_iff_not_or_not.mp h3
theorem q_lv_st2 {G : q_G} {lsr : Array Slot} {n : Nat} {ls : List (Option Value)} {i : Nat} {v : Value} (h : lv_has lsr n ((i, q_cv G v) :: (q_lv G ls).filter (fun q => !(q.1 == i) && (!(q.1 == i + 1) && !(q.1 + 1 == i && q.2.category == 2))))) : lv_has lsr n (q_lv G (q_st2 ls i v)) := by
  refine ⟨h.1, h.2.1, fun q hq => h.2.2 q ?_⟩
  obtain ⟨j, w⟩ := q
  obtain ⟨x, hx, rfl⟩ := q_lv_mem.mp hq
  have hj : j ≠ i + 1 := by
    rintro rfl
    simp only [q_st2, List.getElem?_set] at hx
    simp at hx
  rw [q_st2, List.getElem?_set_ne (fun e => hj e.symm)] at hx
  rcases q_st1_get hx with ⟨rfl, rfl⟩ | ⟨h1, h2, h3⟩
  · exact List.mem_cons_self
  · refine List.mem_cons_of_mem _ (List.mem_filter.mpr ⟨q_lv_mem.mpr ⟨x, h2, rfl⟩, ?_⟩)
    simp only [q_cat]
    simp [h1, hj]
    exact Classical.not_and_iff_not_or_not.mp h3
-- the judgement
def q_D (X : q_M) (pc : Nat) (i : Instr) (len nx : Nat) : Prop := decode (m_b X) pc = .ok (i, len) ∧ nx = pc + len
def q_J (X : q_M) (pc : Nat) (i : Instr) (nx : Nat) (off : Int) (tgt : Nat) : Prop := decode (m_b X) pc = .ok (i, 3) ∧ nx = pc + 3 ∧ (pc : Int) + off = (tgt : Int)
def q_B (G : q_G) (X : q_M) (d : Nat) (p : Program) (R : Room) (s : State) (m : MethodId) (args : Array Value) (meth : Method) (c : Code) : Prop :=
  p.tables.exec = Jvm.exec ∧ c.code = m_b X ∧ c.maxLocals = m_m X ∧ s.vm.findClass (m_y X).cls = some m.cls ∧ (∀ w ∈ q_GT, w.before args s = true) ∧ meth.locks = false ∧ meth.sig.returnType = m_r X ∧ meth.name = (m_y X).name ∧ q_FX G s s.heap ∧ g_b G ≤ s.heap.size ∧ d ≤ R.frames ∧ 64 * d ≤ R.locals
-- a return, or the throw of the one exception that there is (told by a return address)
def q_Ret (X : q_M) (pc : Nat) (r : Option Value) : Prop := match r with
  | some (.int v) => decode (m_b X) pc = .ok (.ireturn, 1) ∧ ∃ ty, m_r X = some ty ∧ narrow ty (.int v) = .int v
  | some (.long _) => decode (m_b X) pc = .ok (.lreturn, 1) ∧ m_r X = some .long
  | some (.retAddr i) => decode (m_b X) pc = .ok (.new i, 3)
  | none => decode (m_b X) pc = .ok (.return_, 1) ∧ m_r X = none
  | _ => False
def q_rs (r : Option Value) : List Value := match r with
  | some (.retAddr _) => []
  | some v => [v]
  | none => []
def q_At (G : q_G) (X : q_M) (d b sb pc : Nat) (ls : List (Option Value)) (st : List Value) (σ : q_S) (Q : Option Value → q_S → Prop) : Prop :=
  ∀ (p : Program) (e : Env) (R : Room) (s : State) (m : MethodId) (args : Array Value) (below : List Frame) (meth : Method) (c : Code) (H : Heap) (locs : List Loc) (cells slots : Nat) (lsr : Array Slot) (QW : State → Prop),
    q_B G X d p R s m args meth c → cells + b ≤ R.cells → slots + sb ≤ R.slots → q_Z G σ (s.heap.size + cells) → q_Rep G σ H → va_S (q_A G) s.heap H locs → lv_has lsr (m_m X) (q_lv G ls) →
    (∀ (H' : Heap) (locs' : List Loc) (cells' slots' : Nat) (lsr' : Array Slot) (pc' : Nat) (r : Option Value) (σ' : q_S), Q r σ' → q_Z G σ' (s.heap.size + cells') → q_Rep G σ' H' → va_S (q_A G) s.heap H' locs' → cells' ≤ R.cells → slots' ≤ R.slots → lsr'.size = m_m X → q_Ret X pc' r →
      W p (g_l G) e R s m args below meth c H' locs' cells' slots' QW (F0 m pc' lsr' ((q_rs r).map (q_cv G)))) →
    W p (g_l G) e R s m args below meth c H locs cells slots QW (F0 m pc lsr (st.map (q_cv G)))
section QRULES
variable {G : q_G} {X : q_M} {d b sb pc nx : Nat} {ls : List (Option Value)} {st : List Value} {σ : q_S} {Q : Option Value → q_S → Prop}
theorem q_imp {Q' : Option Value → q_S → Prop} (h : q_At G X d b sb pc ls st σ Q') (hq : ∀ r σ', Q' r σ' → Q r σ') : q_At G X d b sb pc ls st σ Q := by
  intro p e R s m args below meth c H locs cells slots lsr QW hB h1 h2 hz hR hS hl hk
  exact h p e R s m args below meth c H locs cells slots lsr QW hB h1 h2 hz hR hS hl (fun H' locs' cells' slots' lsr' pc' r σ' q => hk H' locs' cells' slots' lsr' pc' r σ' (hq r σ' q))
theorem q_ret {r : Option Value} (hr : q_Ret X pc r) (hst : st = q_rs r) (h : Q r σ) : q_At G X d b sb pc ls st σ Q := by
  intro p e R s m args below meth c H locs cells slots lsr QW hB h1 h2 hz hR hS hl hk
  subst hst
  exact hk H locs cells slots lsr pc r σ h hz hR hS (by omega) (by omega) hl.1 hr
theorem q_ire {v : Int32} (hd : q_D X pc .ireturn 1 nx) (hr : m_r X = some .int) (h : Q (some (.int v)) σ) : q_At G X d b sb pc ls [.int v] σ Q := q_ret (r := some (.int v)) ⟨hd.1, _, hr, rfl⟩ rfl h
theorem q_zre {v : Int32} (hd : q_D X pc .ireturn 1 nx) (hr : m_r X = some .boolean) (hv : narrow .boolean (.int v) = .int v) (h : Q (some (.int v)) σ) : q_At G X d b sb pc ls [.int v] σ Q := q_ret (r := some (.int v)) ⟨hd.1, _, hr, hv⟩ rfl h
theorem q_lre {v : Int64} (hd : q_D X pc .lreturn 1 nx) (hr : m_r X = some .long) (h : Q (some (.long v)) σ) : q_At G X d b sb pc ls [.long v] σ Q := q_ret (r := some (.long v)) ⟨hd.1, hr⟩ rfl h
theorem q_vre (hd : q_D X pc .return_ 1 nx) (hr : m_r X = none) (h : Q none σ) : q_At G X d b sb pc ls [] σ Q := q_ret (r := none) ⟨hd.1, hr⟩ rfl h
theorem q_thr {i : Nat} (hd : q_D X pc (.new i) 3 nx) (h : Q (some (.retAddr i)) σ) : q_At G X d b sb pc ls [] σ Q := q_ret (r := some (.retAddr i)) hd.1 rfl h
theorem q_iadd {x y : Int32} (hd : q_D X pc (.iadd) 1 nx)  (k : q_At G X d b sb nx ls (.int (x + y) :: st) σ Q) : q_At G X d b sb pc ls (.int y :: .int x :: st) σ Q := by
  intro p e R s m args below meth c H locs cells slots lsr QW hB h1 h2 hz hR hS hl hk
  obtain ⟨hd, rfl⟩ := hd
  exact lv_iadd hB.1 hB.2.1 hd  (k p e R s m args below meth c H locs cells slots lsr QW hB h1 h2 hz hR hS hl hk)

theorem q_ladd {x y : Int64} (hd : q_D X pc (.ladd) 1 nx)  (k : q_At G X d b sb nx ls (.long (x + y) :: st) σ Q) : q_At G X d b sb pc ls (.long y :: .long x :: st) σ Q := by
  intro p e R s m args below meth c H locs cells slots lsr QW hB h1 h2 hz hR hS hl hk
  obtain ⟨hd, rfl⟩ := hd
  exact lv_ladd hB.1 hB.2.1 hd  (k p e R s m args below meth c H locs cells slots lsr QW hB h1 h2 hz hR hS hl hk)

theorem q_isub {x y : Int32} (hd : q_D X pc (.isub) 1 nx)  (k : q_At G X d b sb nx ls (.int (x - y) :: st) σ Q) : q_At G X d b sb pc ls (.int y :: .int x :: st) σ Q := by
  intro p e R s m args below meth c H locs cells slots lsr QW hB h1 h2 hz hR hS hl hk
  obtain ⟨hd, rfl⟩ := hd
  exact lv_isub hB.1 hB.2.1 hd  (k p e R s m args below meth c H locs cells slots lsr QW hB h1 h2 hz hR hS hl hk)

theorem q_lsub {x y : Int64} (hd : q_D X pc (.lsub) 1 nx)  (k : q_At G X d b sb nx ls (.long (x - y) :: st) σ Q) : q_At G X d b sb pc ls (.long y :: .long x :: st) σ Q := by
  intro p e R s m args below meth c H locs cells slots lsr QW hB h1 h2 hz hR hS hl hk
  obtain ⟨hd, rfl⟩ := hd
  exact lv_lsub hB.1 hB.2.1 hd  (k p e R s m args below meth c H locs cells slots lsr QW hB h1 h2 hz hR hS hl hk)

theorem q_imul {x y : Int32} (hd : q_D X pc (.imul) 1 nx)  (k : q_At G X d b sb nx ls (.int (x * y) :: st) σ Q) : q_At G X d b sb pc ls (.int y :: .int x :: st) σ Q := by
  intro p e R s m args below meth c H locs cells slots lsr QW hB h1 h2 hz hR hS hl hk
  obtain ⟨hd, rfl⟩ := hd
  exact lv_imul hB.1 hB.2.1 hd  (k p e R s m args below meth c H locs cells slots lsr QW hB h1 h2 hz hR hS hl hk)

theorem q_lmul {x y : Int64} (hd : q_D X pc (.lmul) 1 nx)  (k : q_At G X d b sb nx ls (.long (x * y) :: st) σ Q) : q_At G X d b sb pc ls (.long y :: .long x :: st) σ Q := by
  intro p e R s m args below meth c H locs cells slots lsr QW hB h1 h2 hz hR hS hl hk
  obtain ⟨hd, rfl⟩ := hd
  exact lv_lmul hB.1 hB.2.1 hd  (k p e R s m args below meth c H locs cells slots lsr QW hB h1 h2 hz hR hS hl hk)

theorem q_iand {x y : Int32} (hd : q_D X pc (.iand) 1 nx)  (k : q_At G X d b sb nx ls (.int (x &&& y) :: st) σ Q) : q_At G X d b sb pc ls (.int y :: .int x :: st) σ Q := by
  intro p e R s m args below meth c H locs cells slots lsr QW hB h1 h2 hz hR hS hl hk
  obtain ⟨hd, rfl⟩ := hd
  exact lv_iand hB.1 hB.2.1 hd  (k p e R s m args below meth c H locs cells slots lsr QW hB h1 h2 hz hR hS hl hk)

theorem q_land {x y : Int64} (hd : q_D X pc (.land) 1 nx)  (k : q_At G X d b sb nx ls (.long (x &&& y) :: st) σ Q) : q_At G X d b sb pc ls (.long y :: .long x :: st) σ Q := by
  intro p e R s m args below meth c H locs cells slots lsr QW hB h1 h2 hz hR hS hl hk
  obtain ⟨hd, rfl⟩ := hd
  exact lv_land hB.1 hB.2.1 hd  (k p e R s m args below meth c H locs cells slots lsr QW hB h1 h2 hz hR hS hl hk)

theorem q_ior {x y : Int32} (hd : q_D X pc (.ior) 1 nx)  (k : q_At G X d b sb nx ls (.int (x ||| y) :: st) σ Q) : q_At G X d b sb pc ls (.int y :: .int x :: st) σ Q := by
  intro p e R s m args below meth c H locs cells slots lsr QW hB h1 h2 hz hR hS hl hk
  obtain ⟨hd, rfl⟩ := hd
  exact lv_ior hB.1 hB.2.1 hd  (k p e R s m args below meth c H locs cells slots lsr QW hB h1 h2 hz hR hS hl hk)

theorem q_lor {x y : Int64} (hd : q_D X pc (.lor) 1 nx)  (k : q_At G X d b sb nx ls (.long (x ||| y) :: st) σ Q) : q_At G X d b sb pc ls (.long y :: .long x :: st) σ Q := by
  intro p e R s m args below meth c H locs cells slots lsr QW hB h1 h2 hz hR hS hl hk
  obtain ⟨hd, rfl⟩ := hd
  exact lv_lor hB.1 hB.2.1 hd  (k p e R s m args below meth c H locs cells slots lsr QW hB h1 h2 hz hR hS hl hk)

theorem q_ixor {x y : Int32} (hd : q_D X pc (.ixor) 1 nx)  (k : q_At G X d b sb nx ls (.int (x ^^^ y) :: st) σ Q) : q_At G X d b sb pc ls (.int y :: .int x :: st) σ Q := by
  intro p e R s m args below meth c H locs cells slots lsr QW hB h1 h2 hz hR hS hl hk
  obtain ⟨hd, rfl⟩ := hd
  exact lv_ixor hB.1 hB.2.1 hd  (k p e R s m args below meth c H locs cells slots lsr QW hB h1 h2 hz hR hS hl hk)

theorem q_lxor {x y : Int64} (hd : q_D X pc (.lxor) 1 nx)  (k : q_At G X d b sb nx ls (.long (x ^^^ y) :: st) σ Q) : q_At G X d b sb pc ls (.long y :: .long x :: st) σ Q := by
  intro p e R s m args below meth c H locs cells slots lsr QW hB h1 h2 hz hR hS hl hk
  obtain ⟨hd, rfl⟩ := hd
  exact lv_lxor hB.1 hB.2.1 hd  (k p e R s m args below meth c H locs cells slots lsr QW hB h1 h2 hz hR hS hl hk)

theorem q_idiv {x y : Int32} (hd : q_D X pc (.idiv) 1 nx) (hne : ¬ y = 0) (k : q_At G X d b sb nx ls (.int (x / y) :: st) σ Q) : q_At G X d b sb pc ls (.int y :: .int x :: st) σ Q := by
  intro p e R s m args below meth c H locs cells slots lsr QW hB h1 h2 hz hR hS hl hk
  obtain ⟨hd, rfl⟩ := hd
  exact lv_idiv hB.1 hB.2.1 hd hne (k p e R s m args below meth c H locs cells slots lsr QW hB h1 h2 hz hR hS hl hk)

theorem q_irem {x y : Int32} (hd : q_D X pc (.irem) 1 nx) (hne : ¬ y = 0) (k : q_At G X d b sb nx ls (.int (x - x / y * y) :: st) σ Q) : q_At G X d b sb pc ls (.int y :: .int x :: st) σ Q := by
  intro p e R s m args below meth c H locs cells slots lsr QW hB h1 h2 hz hR hS hl hk
  obtain ⟨hd, rfl⟩ := hd
  exact lv_irem hB.1 hB.2.1 hd hne (k p e R s m args below meth c H locs cells slots lsr QW hB h1 h2 hz hR hS hl hk)

theorem q_ldiv {x y : Int64} (hd : q_D X pc (.ldiv) 1 nx) (hne : ¬ y = 0) (k : q_At G X d b sb nx ls (.long (x / y) :: st) σ Q) : q_At G X d b sb pc ls (.long y :: .long x :: st) σ Q := by
  intro p e R s m args below meth c H locs cells slots lsr QW hB h1 h2 hz hR hS hl hk
  obtain ⟨hd, rfl⟩ := hd
  exact lv_ldiv hB.1 hB.2.1 hd hne (k p e R s m args below meth c H locs cells slots lsr QW hB h1 h2 hz hR hS hl hk)

theorem q_lrem {x y : Int64} (hd : q_D X pc (.lrem) 1 nx) (hne : ¬ y = 0) (k : q_At G X d b sb nx ls (.long (x - x / y * y) :: st) σ Q) : q_At G X d b sb pc ls (.long y :: .long x :: st) σ Q := by
  intro p e R s m args below meth c H locs cells slots lsr QW hB h1 h2 hz hR hS hl hk
  obtain ⟨hd, rfl⟩ := hd
  exact lv_lrem hB.1 hB.2.1 hd hne (k p e R s m args below meth c H locs cells slots lsr QW hB h1 h2 hz hR hS hl hk)

theorem q_ishl {x y : Int32} (hd : q_D X pc (.ishl) 1 nx)  (k : q_At G X d b sb nx ls (.int (x <<< (y &&& 31)) :: st) σ Q) : q_At G X d b sb pc ls (.int y :: .int x :: st) σ Q := by
  intro p e R s m args below meth c H locs cells slots lsr QW hB h1 h2 hz hR hS hl hk
  obtain ⟨hd, rfl⟩ := hd
  exact lv_ishl hB.1 hB.2.1 hd  (k p e R s m args below meth c H locs cells slots lsr QW hB h1 h2 hz hR hS hl hk)

theorem q_ishr {x y : Int32} (hd : q_D X pc (.ishr) 1 nx)  (k : q_At G X d b sb nx ls (.int (x >>> (y &&& 31)) :: st) σ Q) : q_At G X d b sb pc ls (.int y :: .int x :: st) σ Q := by
  intro p e R s m args below meth c H locs cells slots lsr QW hB h1 h2 hz hR hS hl hk
  obtain ⟨hd, rfl⟩ := hd
  exact lv_ishr hB.1 hB.2.1 hd  (k p e R s m args below meth c H locs cells slots lsr QW hB h1 h2 hz hR hS hl hk)

theorem q_lushr {x : Int64} {y : Int32} (hd : q_D X pc (.lushr) 1 nx)  (k : q_At G X d b sb nx ls (.long ((x.toUInt64 >>> (y.toInt64.toUInt64 &&& Int64.toUInt64 63)).toInt64) :: st) σ Q) : q_At G X d b sb pc ls (.int y :: .long x :: st) σ Q := by
  intro p e R s m args below meth c H locs cells slots lsr QW hB h1 h2 hz hR hS hl hk
  obtain ⟨hd, rfl⟩ := hd
  exact lv_lushr hB.1 hB.2.1 hd rfl (k p e R s m args below meth c H locs cells slots lsr QW hB h1 h2 hz hR hS hl hk)

theorem q_lshl {x : Int64} {y : Int32} (hd : q_D X pc (.lshl) 1 nx)  (k : q_At G X d b sb nx ls (.long (x <<< (y.toInt64 &&& 63)) :: st) σ Q) : q_At G X d b sb pc ls (.int y :: .long x :: st) σ Q := by
  intro p e R s m args below meth c H locs cells slots lsr QW hB h1 h2 hz hR hS hl hk
  obtain ⟨hd, rfl⟩ := hd
  exact lv_lshl hB.1 hB.2.1 hd rfl (k p e R s m args below meth c H locs cells slots lsr QW hB h1 h2 hz hR hS hl hk)

theorem q_lshr {x : Int64} {y : Int32} (hd : q_D X pc (.lshr) 1 nx)  (k : q_At G X d b sb nx ls (.long (x >>> (y.toInt64 &&& 63)) :: st) σ Q) : q_At G X d b sb pc ls (.int y :: .long x :: st) σ Q := by
  intro p e R s m args below meth c H locs cells slots lsr QW hB h1 h2 hz hR hS hl hk
  obtain ⟨hd, rfl⟩ := hd
  exact lv_lshr hB.1 hB.2.1 hd rfl (k p e R s m args below meth c H locs cells slots lsr QW hB h1 h2 hz hR hS hl hk)

theorem q_i2l {x : Int32} (hd : q_D X pc (.i2l) 1 nx)  (k : q_At G X d b sb nx ls (.long x.toInt64 :: st) σ Q) : q_At G X d b sb pc ls (.int x :: st) σ Q := by
  intro p e R s m args below meth c H locs cells slots lsr QW hB h1 h2 hz hR hS hl hk
  obtain ⟨hd, rfl⟩ := hd
  exact lv_i2l hB.1 hB.2.1 hd rfl (k p e R s m args below meth c H locs cells slots lsr QW hB h1 h2 hz hR hS hl hk)

theorem q_l2i {x : Int64} (hd : q_D X pc (.l2i) 1 nx)  (k : q_At G X d b sb nx ls (.int x.toInt32 :: st) σ Q) : q_At G X d b sb pc ls (.long x :: st) σ Q := by
  intro p e R s m args below meth c H locs cells slots lsr QW hB h1 h2 hz hR hS hl hk
  obtain ⟨hd, rfl⟩ := hd
  exact lv_l2i hB.1 hB.2.1 hd rfl (k p e R s m args below meth c H locs cells slots lsr QW hB h1 h2 hz hR hS hl hk)

theorem q_i2c {x : Int32} (hd : q_D X pc (.i2c) 1 nx)  (k : q_At G X d b sb nx ls (.int ((x.toUInt32 % 65536).toInt32) :: st) σ Q) : q_At G X d b sb pc ls (.int x :: st) σ Q := by
  intro p e R s m args below meth c H locs cells slots lsr QW hB h1 h2 hz hR hS hl hk
  obtain ⟨hd, rfl⟩ := hd
  exact lv_i2c hB.1 hB.2.1 hd rfl (k p e R s m args below meth c H locs cells slots lsr QW hB h1 h2 hz hR hS hl hk)

theorem q_lcmp {x y : Int64} (hd : q_D X pc (.lcmp) 1 nx)  (k : q_At G X d b sb nx ls (.int (lg_cmp x y) :: st) σ Q) : q_At G X d b sb pc ls (.long y :: .long x :: st) σ Q := by
  intro p e R s m args below meth c H locs cells slots lsr QW hB h1 h2 hz hR hS hl hk
  obtain ⟨hd, rfl⟩ := hd
  exact W.lcmp hB.1 hB.2.1 hd  (k p e R s m args below meth c H locs cells slots lsr QW hB h1 h2 hz hR hS hl hk)

theorem q_iconst {n : Int} {v : Int32} (hd : q_D X pc (.iconst n) 1 nx) (hv : Int32.ofInt n = v) (k : q_At G X d b sb nx ls (.int v :: st) σ Q) : q_At G X d b sb pc ls (st) σ Q := by
  intro p e R s m args below meth c H locs cells slots lsr QW hB h1 h2 hz hR hS hl hk
  obtain ⟨hd, rfl⟩ := hd
  exact lv_iconst hB.1 hB.2.1 hd hv (k p e R s m args below meth c H locs cells slots lsr QW hB h1 h2 hz hR hS hl hk)

theorem q_bipush {n : Int} {v : Int32} (hd : q_D X pc (.bipush n) 2 nx) (hv : (Int8.ofInt n).toInt32 = v) (k : q_At G X d b sb nx ls (.int v :: st) σ Q) : q_At G X d b sb pc ls (st) σ Q := by
  intro p e R s m args below meth c H locs cells slots lsr QW hB h1 h2 hz hR hS hl hk
  obtain ⟨hd, rfl⟩ := hd
  exact lv_bipush hB.1 hB.2.1 hd hv (k p e R s m args below meth c H locs cells slots lsr QW hB h1 h2 hz hR hS hl hk)

theorem q_sipush {n : Int} {v : Int32} (hd : q_D X pc (.sipush n) 3 nx) (hv : (Int16.ofInt n).toInt32 = v) (k : q_At G X d b sb nx ls (.int v :: st) σ Q) : q_At G X d b sb pc ls (st) σ Q := by
  intro p e R s m args below meth c H locs cells slots lsr QW hB h1 h2 hz hR hS hl hk
  obtain ⟨hd, rfl⟩ := hd
  exact lv_sipush hB.1 hB.2.1 hd hv (k p e R s m args below meth c H locs cells slots lsr QW hB h1 h2 hz hR hS hl hk)

theorem q_lconst {n : Fin 2} {v : Int64} (hd : q_D X pc (.lconst n) 1 nx) (hv : Int64.ofNat (n : Nat) = v) (k : q_At G X d b sb nx ls (.long v :: st) σ Q) : q_At G X d b sb pc ls (st) σ Q := by
  intro p e R s m args below meth c H locs cells slots lsr QW hB h1 h2 hz hR hS hl hk
  obtain ⟨hd, rfl⟩ := hd
  exact lv_lconst hB.1 hB.2.1 hd hv (k p e R s m args below meth c H locs cells slots lsr QW hB h1 h2 hz hR hS hl hk)

theorem q_dup {v : Value} (hd : q_D X pc .dup 1 nx) (hv : v.category = 1) (k : q_At G X d b sb nx ls (v :: v :: st) σ Q) : q_At G X d b sb pc ls (v :: st) σ Q := by
  intro p e R s m args below meth c H locs cells slots lsr QW hB h1 h2 hz hR hS hl hk
  obtain ⟨hd, rfl⟩ := hd
  exact lv_dup hB.1 hB.2.1 hd ((q_cat G v).trans hv) (k p e R s m args below meth c H locs cells slots lsr QW hB h1 h2 hz hR hS hl hk)

theorem q_pop {v : Value} (hd : q_D X pc .pop 1 nx) (hv : v.category = 1) (k : q_At G X d b sb nx ls (st) σ Q) : q_At G X d b sb pc ls (v :: st) σ Q := by
  intro p e R s m args below meth c H locs cells slots lsr QW hB h1 h2 hz hR hS hl hk
  obtain ⟨hd, rfl⟩ := hd
  exact lv_pop hB.1 hB.2.1 hd ((q_cat G v).trans hv) (k p e R s m args below meth c H locs cells slots lsr QW hB h1 h2 hz hR hS hl hk)

theorem q_dup2 {v w : Value} (hd : q_D X pc .dup2 1 nx) (hv : v.category = 1) (hw : w.category = 1) (k : q_At G X d b sb nx ls (v :: w :: v :: w :: st) σ Q) : q_At G X d b sb pc ls (v :: w :: st) σ Q := by
  intro p e R s m args below meth c H locs cells slots lsr QW hB h1 h2 hz hR hS hl hk
  obtain ⟨hd, rfl⟩ := hd
  exact lv_dup2_11 hB.1 hB.2.1 hd ((q_cat G v).trans hv) ((q_cat G w).trans hw) (k p e R s m args below meth c H locs cells slots lsr QW hB h1 h2 hz hR hS hl hk)

theorem q_iload_n {j : Fin 4} {v : Int32} (hd : q_D X pc (.iload_n j) 1 nx) (hi : ls[(j : Nat)]? = some (some (.int v))) (k : q_At G X d b sb nx ls (.int v :: st) σ Q) : q_At G X d b sb pc ls st σ Q := by
  intro p e R s m args below meth c H locs cells slots lsr QW hB h1 h2 hz hR hS hl hk
  obtain ⟨hd, rfl⟩ := hd
  exact lv_iload_n hB.1 hB.2.1 hd rfl (q_lv_get hl hi) (k p e R s m args below meth c H locs cells slots lsr QW hB h1 h2 hz hR hS hl hk)

theorem q_iload {j : Nat} {v : Int32} (hd : q_D X pc (.iload j) 2 nx) (hi : ls[j]? = some (some (.int v))) (k : q_At G X d b sb nx ls (.int v :: st) σ Q) : q_At G X d b sb pc ls st σ Q := by
  intro p e R s m args below meth c H locs cells slots lsr QW hB h1 h2 hz hR hS hl hk
  obtain ⟨hd, rfl⟩ := hd
  exact lv_iload hB.1 hB.2.1 hd (q_lv_get hl hi) (k p e R s m args below meth c H locs cells slots lsr QW hB h1 h2 hz hR hS hl hk)

theorem q_istore_n {j : Fin 4} {v : Int32} (hd : q_D X pc (.istore_n j) 1 nx) (hn : (j : Nat) < m_m X) (k : q_At G X d b sb nx (q_st1 ls j (.int v)) st σ Q) : q_At G X d b sb pc ls (.int v :: st) σ Q := by
  intro p e R s m args below meth c H locs cells slots lsr QW hB h1 h2 hz hR hS hl hk
  obtain ⟨hd, rfl⟩ := hd
  exact lv_istore_n hB.1 hB.2.1 hd rfl hl hn rfl (fun lsr' hl' => k p e R s m args below meth c H locs cells slots lsr' QW hB h1 h2 hz hR hS (q_lv_st1 (v := .int v) hl') hk)

theorem q_istore {j : Nat} {v : Int32} (hd : q_D X pc (.istore j) 2 nx) (hn : j < m_m X) (k : q_At G X d b sb nx (q_st1 ls j (.int v)) st σ Q) : q_At G X d b sb pc ls (.int v :: st) σ Q := by
  intro p e R s m args below meth c H locs cells slots lsr QW hB h1 h2 hz hR hS hl hk
  obtain ⟨hd, rfl⟩ := hd
  exact lv_istore hB.1 hB.2.1 hd hl hn rfl (fun lsr' hl' => k p e R s m args below meth c H locs cells slots lsr' QW hB h1 h2 hz hR hS (q_lv_st1 (v := .int v) hl') hk)

theorem q_lload_n {j : Fin 4} {v : Int64} (hd : q_D X pc (.lload_n j) 1 nx) (hi : ls[(j : Nat)]? = some (some (.long v))) (k : q_At G X d b sb nx ls (.long v :: st) σ Q) : q_At G X d b sb pc ls st σ Q := by
  intro p e R s m args below meth c H locs cells slots lsr QW hB h1 h2 hz hR hS hl hk
  obtain ⟨hd, rfl⟩ := hd
  exact lv_lload_n hB.1 hB.2.1 hd rfl (q_lv_get hl hi) (k p e R s m args below meth c H locs cells slots lsr QW hB h1 h2 hz hR hS hl hk)

theorem q_lload {j : Nat} {v : Int64} (hd : q_D X pc (.lload j) 2 nx) (hi : ls[j]? = some (some (.long v))) (k : q_At G X d b sb nx ls (.long v :: st) σ Q) : q_At G X d b sb pc ls st σ Q := by
  intro p e R s m args below meth c H locs cells slots lsr QW hB h1 h2 hz hR hS hl hk
  obtain ⟨hd, rfl⟩ := hd
  exact lv_lload hB.1 hB.2.1 hd (q_lv_get hl hi) (k p e R s m args below meth c H locs cells slots lsr QW hB h1 h2 hz hR hS hl hk)

theorem q_lstore_n {j : Fin 4} {v : Int64} (hd : q_D X pc (.lstore_n j) 1 nx) (hn : (j : Nat) + 1 < m_m X) (k : q_At G X d b sb nx (q_st2 ls j (.long v)) st σ Q) : q_At G X d b sb pc ls (.long v :: st) σ Q := by
  intro p e R s m args below meth c H locs cells slots lsr QW hB h1 h2 hz hR hS hl hk
  obtain ⟨hd, rfl⟩ := hd
  exact lv_lstore_n hB.1 hB.2.1 hd rfl hl hn rfl (fun lsr' hl' => k p e R s m args below meth c H locs cells slots lsr' QW hB h1 h2 hz hR hS (q_lv_st2 (v := .long v) hl') hk)

theorem q_lstore {j : Nat} {v : Int64} (hd : q_D X pc (.lstore j) 2 nx) (hn : j + 1 < m_m X) (k : q_At G X d b sb nx (q_st2 ls j (.long v)) st σ Q) : q_At G X d b sb pc ls (.long v :: st) σ Q := by
  intro p e R s m args below meth c H locs cells slots lsr QW hB h1 h2 hz hR hS hl hk
  obtain ⟨hd, rfl⟩ := hd
  exact lv_lstore hB.1 hB.2.1 hd hl hn rfl (fun lsr' hl' => k p e R s m args below meth c H locs cells slots lsr' QW hB h1 h2 hz hR hS (q_lv_st2 (v := .long v) hl') hk)

theorem q_aload_n {j : Fin 4} {v : Nat} (hd : q_D X pc (.aload_n j) 1 nx) (hi : ls[(j : Nat)]? = some (some (.ref v))) (k : q_At G X d b sb nx ls (.ref v :: st) σ Q) : q_At G X d b sb pc ls st σ Q := by
  intro p e R s m args below meth c H locs cells slots lsr QW hB h1 h2 hz hR hS hl hk
  obtain ⟨hd, rfl⟩ := hd
  exact lv_aload_n hB.1 hB.2.1 hd rfl (q_lv_get hl hi) (k p e R s m args below meth c H locs cells slots lsr QW hB h1 h2 hz hR hS hl hk)

theorem q_aload {j : Nat} {v : Nat} (hd : q_D X pc (.aload j) 2 nx) (hi : ls[j]? = some (some (.ref v))) (k : q_At G X d b sb nx ls (.ref v :: st) σ Q) : q_At G X d b sb pc ls st σ Q := by
  intro p e R s m args below meth c H locs cells slots lsr QW hB h1 h2 hz hR hS hl hk
  obtain ⟨hd, rfl⟩ := hd
  exact lv_aload hB.1 hB.2.1 hd (q_lv_get hl hi) (k p e R s m args below meth c H locs cells slots lsr QW hB h1 h2 hz hR hS hl hk)

theorem q_astore_n {j : Fin 4} {v : Nat} (hd : q_D X pc (.astore_n j) 1 nx) (hn : (j : Nat) < m_m X) (k : q_At G X d b sb nx (q_st1 ls j (.ref v)) st σ Q) : q_At G X d b sb pc ls (.ref v :: st) σ Q := by
  intro p e R s m args below meth c H locs cells slots lsr QW hB h1 h2 hz hR hS hl hk
  obtain ⟨hd, rfl⟩ := hd
  exact lv_astore_n hB.1 hB.2.1 hd rfl hl hn rfl (fun lsr' hl' => k p e R s m args below meth c H locs cells slots lsr' QW hB h1 h2 hz hR hS (q_lv_st1 (v := .ref v) hl') hk)

theorem q_astore {j : Nat} {v : Nat} (hd : q_D X pc (.astore j) 2 nx) (hn : j < m_m X) (k : q_At G X d b sb nx (q_st1 ls j (.ref v)) st σ Q) : q_At G X d b sb pc ls (.ref v :: st) σ Q := by
  intro p e R s m args below meth c H locs cells slots lsr QW hB h1 h2 hz hR hS hl hk
  obtain ⟨hd, rfl⟩ := hd
  exact lv_astore hB.1 hB.2.1 hd hl hn rfl (fun lsr' hl' => k p e R s m args below meth c H locs cells slots lsr' QW hB h1 h2 hz hR hS (q_lv_st1 (v := .ref v) hl') hk)

theorem q_iinc {j : Nat} {n : Int} {x v : Int32} (hd : q_D X pc (.iinc j n) 3 nx) (hi : ls[j]? = some (some (.int x))) (hv : x + Int32.ofInt n = v) (hn : j < m_m X) (k : q_At G X d b sb nx (q_st1 ls j (.int v)) st σ Q) : q_At G X d b sb pc ls st σ Q := by
  intro p e R s m args below meth c H locs cells slots lsr QW hB h1 h2 hz hR hS hl hk
  obtain ⟨hd, rfl⟩ := hd
  obtain ⟨kk, hkk⟩ := List.getElem?_of_mem (q_lv_mem.mpr ⟨_, hi, rfl⟩ : (j, q_cv G (.int x)) ∈ q_lv G ls)
  exact lv_iinc hB.1 hB.2.1 hd hl hkk hv hn rfl (fun lsr' hl' => k p e R s m args below meth c H locs cells slots lsr' QW hB h1 h2 hz hR hS (q_lv_st1 (v := .int v) hl') hk)

theorem q_if_eq {x : Int32} {off : Int} {tgt : Nat} (hd : q_J X pc (.ifCond .eq off) nx off tgt) (kt : x = 0 → q_At G X d b sb tgt ls st σ Q) (kf : ¬ x = 0 → q_At G X d b sb nx ls st σ Q) : q_At G X d b sb pc ls (.int x :: st) σ Q := by
  intro p e R s m args below meth c H locs cells slots lsr QW hB h1 h2 hz hR hS hl hk
  obtain ⟨hd, rfl, ht⟩ := hd
  exact lv_if_eq hB.1 hB.2.1 hd ht (fun q => kt q p e R s m args below meth c H locs cells slots lsr QW hB h1 h2 hz hR hS hl hk) (fun q => kf q p e R s m args below meth c H locs cells slots lsr QW hB h1 h2 hz hR hS hl hk)

theorem q_if_ne {x : Int32} {off : Int} {tgt : Nat} (hd : q_J X pc (.ifCond .ne off) nx off tgt) (kt : ¬ x = 0 → q_At G X d b sb tgt ls st σ Q) (kf : x = 0 → q_At G X d b sb nx ls st σ Q) : q_At G X d b sb pc ls (.int x :: st) σ Q := by
  intro p e R s m args below meth c H locs cells slots lsr QW hB h1 h2 hz hR hS hl hk
  obtain ⟨hd, rfl, ht⟩ := hd
  exact lv_if_ne hB.1 hB.2.1 hd ht (fun q => kt q p e R s m args below meth c H locs cells slots lsr QW hB h1 h2 hz hR hS hl hk) (fun q => kf q p e R s m args below meth c H locs cells slots lsr QW hB h1 h2 hz hR hS hl hk)

theorem q_if_lt {x : Int32} {off : Int} {tgt : Nat} (hd : q_J X pc (.ifCond .lt off) nx off tgt) (kt : x < 0 → q_At G X d b sb tgt ls st σ Q) (kf : ¬ x < 0 → q_At G X d b sb nx ls st σ Q) : q_At G X d b sb pc ls (.int x :: st) σ Q := by
  intro p e R s m args below meth c H locs cells slots lsr QW hB h1 h2 hz hR hS hl hk
  obtain ⟨hd, rfl, ht⟩ := hd
  exact lv_if_lt hB.1 hB.2.1 hd ht (fun q => kt q p e R s m args below meth c H locs cells slots lsr QW hB h1 h2 hz hR hS hl hk) (fun q => kf q p e R s m args below meth c H locs cells slots lsr QW hB h1 h2 hz hR hS hl hk)

theorem q_if_ge {x : Int32} {off : Int} {tgt : Nat} (hd : q_J X pc (.ifCond .ge off) nx off tgt) (kt : 0 ≤ x → q_At G X d b sb tgt ls st σ Q) (kf : ¬ 0 ≤ x → q_At G X d b sb nx ls st σ Q) : q_At G X d b sb pc ls (.int x :: st) σ Q := by
  intro p e R s m args below meth c H locs cells slots lsr QW hB h1 h2 hz hR hS hl hk
  obtain ⟨hd, rfl, ht⟩ := hd
  exact lv_if_ge hB.1 hB.2.1 hd ht (fun q => kt q p e R s m args below meth c H locs cells slots lsr QW hB h1 h2 hz hR hS hl hk) (fun q => kf q p e R s m args below meth c H locs cells slots lsr QW hB h1 h2 hz hR hS hl hk)

theorem q_if_gt {x : Int32} {off : Int} {tgt : Nat} (hd : q_J X pc (.ifCond .gt off) nx off tgt) (kt : 0 < x → q_At G X d b sb tgt ls st σ Q) (kf : ¬ 0 < x → q_At G X d b sb nx ls st σ Q) : q_At G X d b sb pc ls (.int x :: st) σ Q := by
  intro p e R s m args below meth c H locs cells slots lsr QW hB h1 h2 hz hR hS hl hk
  obtain ⟨hd, rfl, ht⟩ := hd
  exact lv_if_gt hB.1 hB.2.1 hd ht (fun q => kt q p e R s m args below meth c H locs cells slots lsr QW hB h1 h2 hz hR hS hl hk) (fun q => kf q p e R s m args below meth c H locs cells slots lsr QW hB h1 h2 hz hR hS hl hk)

theorem q_if_le {x : Int32} {off : Int} {tgt : Nat} (hd : q_J X pc (.ifCond .le off) nx off tgt) (kt : x ≤ 0 → q_At G X d b sb tgt ls st σ Q) (kf : ¬ x ≤ 0 → q_At G X d b sb nx ls st σ Q) : q_At G X d b sb pc ls (.int x :: st) σ Q := by
  intro p e R s m args below meth c H locs cells slots lsr QW hB h1 h2 hz hR hS hl hk
  obtain ⟨hd, rfl, ht⟩ := hd
  exact lv_if_le hB.1 hB.2.1 hd ht (fun q => kt q p e R s m args below meth c H locs cells slots lsr QW hB h1 h2 hz hR hS hl hk) (fun q => kf q p e R s m args below meth c H locs cells slots lsr QW hB h1 h2 hz hR hS hl hk)

theorem q_icmp_eq {x y : Int32} {off : Int} {tgt : Nat} (hd : q_J X pc (.if_icmp .eq off) nx off tgt) (kt : x = y → q_At G X d b sb tgt ls st σ Q) (kf : ¬ x = y → q_At G X d b sb nx ls st σ Q) : q_At G X d b sb pc ls (.int y :: .int x :: st) σ Q := by
  intro p e R s m args below meth c H locs cells slots lsr QW hB h1 h2 hz hR hS hl hk
  obtain ⟨hd, rfl, ht⟩ := hd
  exact lv_icmp_eq hB.1 hB.2.1 hd ht (fun q => kt q p e R s m args below meth c H locs cells slots lsr QW hB h1 h2 hz hR hS hl hk) (fun q => kf q p e R s m args below meth c H locs cells slots lsr QW hB h1 h2 hz hR hS hl hk)

theorem q_icmp_ne {x y : Int32} {off : Int} {tgt : Nat} (hd : q_J X pc (.if_icmp .ne off) nx off tgt) (kt : ¬ x = y → q_At G X d b sb tgt ls st σ Q) (kf : x = y → q_At G X d b sb nx ls st σ Q) : q_At G X d b sb pc ls (.int y :: .int x :: st) σ Q := by
  intro p e R s m args below meth c H locs cells slots lsr QW hB h1 h2 hz hR hS hl hk
  obtain ⟨hd, rfl, ht⟩ := hd
  exact lv_icmp_ne hB.1 hB.2.1 hd ht (fun q => kt q p e R s m args below meth c H locs cells slots lsr QW hB h1 h2 hz hR hS hl hk) (fun q => kf q p e R s m args below meth c H locs cells slots lsr QW hB h1 h2 hz hR hS hl hk)

theorem q_icmp_lt {x y : Int32} {off : Int} {tgt : Nat} (hd : q_J X pc (.if_icmp .lt off) nx off tgt) (kt : x < y → q_At G X d b sb tgt ls st σ Q) (kf : ¬ x < y → q_At G X d b sb nx ls st σ Q) : q_At G X d b sb pc ls (.int y :: .int x :: st) σ Q := by
  intro p e R s m args below meth c H locs cells slots lsr QW hB h1 h2 hz hR hS hl hk
  obtain ⟨hd, rfl, ht⟩ := hd
  exact lv_icmp_lt hB.1 hB.2.1 hd ht (fun q => kt q p e R s m args below meth c H locs cells slots lsr QW hB h1 h2 hz hR hS hl hk) (fun q => kf q p e R s m args below meth c H locs cells slots lsr QW hB h1 h2 hz hR hS hl hk)

theorem q_icmp_ge {x y : Int32} {off : Int} {tgt : Nat} (hd : q_J X pc (.if_icmp .ge off) nx off tgt) (kt : y ≤ x → q_At G X d b sb tgt ls st σ Q) (kf : ¬ y ≤ x → q_At G X d b sb nx ls st σ Q) : q_At G X d b sb pc ls (.int y :: .int x :: st) σ Q := by
  intro p e R s m args below meth c H locs cells slots lsr QW hB h1 h2 hz hR hS hl hk
  obtain ⟨hd, rfl, ht⟩ := hd
  exact lv_icmp_ge hB.1 hB.2.1 hd ht (fun q => kt q p e R s m args below meth c H locs cells slots lsr QW hB h1 h2 hz hR hS hl hk) (fun q => kf q p e R s m args below meth c H locs cells slots lsr QW hB h1 h2 hz hR hS hl hk)

theorem q_icmp_gt {x y : Int32} {off : Int} {tgt : Nat} (hd : q_J X pc (.if_icmp .gt off) nx off tgt) (kt : y < x → q_At G X d b sb tgt ls st σ Q) (kf : ¬ y < x → q_At G X d b sb nx ls st σ Q) : q_At G X d b sb pc ls (.int y :: .int x :: st) σ Q := by
  intro p e R s m args below meth c H locs cells slots lsr QW hB h1 h2 hz hR hS hl hk
  obtain ⟨hd, rfl, ht⟩ := hd
  exact lv_icmp_gt hB.1 hB.2.1 hd ht (fun q => kt q p e R s m args below meth c H locs cells slots lsr QW hB h1 h2 hz hR hS hl hk) (fun q => kf q p e R s m args below meth c H locs cells slots lsr QW hB h1 h2 hz hR hS hl hk)

theorem q_icmp_le {x y : Int32} {off : Int} {tgt : Nat} (hd : q_J X pc (.if_icmp .le off) nx off tgt) (kt : x ≤ y → q_At G X d b sb tgt ls st σ Q) (kf : ¬ x ≤ y → q_At G X d b sb nx ls st σ Q) : q_At G X d b sb pc ls (.int y :: .int x :: st) σ Q := by
  intro p e R s m args below meth c H locs cells slots lsr QW hB h1 h2 hz hR hS hl hk
  obtain ⟨hd, rfl, ht⟩ := hd
  exact lv_icmp_le hB.1 hB.2.1 hd ht (fun q => kt q p e R s m args below meth c H locs cells slots lsr QW hB h1 h2 hz hR hS hl hk) (fun q => kf q p e R s m args below meth c H locs cells slots lsr QW hB h1 h2 hz hR hS hl hk)

theorem q_goto {off : Int} {tgt : Nat} (hd : q_J X pc (.goto off) nx off tgt) (k : q_At G X d b sb tgt ls st σ Q) : q_At G X d b sb pc ls st σ Q := by
  intro p e R s m args below meth c H locs cells slots lsr QW hB h1 h2 hz hR hS hl hk
  obtain ⟨hd, rfl, ht⟩ := hd
  exact lv_goto hB.1 hB.2.1 hd ht (k p e R s m args below meth c H locs cells slots lsr QW hB h1 h2 hz hR hS hl hk)

theorem q_tabOut {dflt lo hi : Int} {offs : Array Int} {len : Nat} {x : Int32} {tgt : Nat} (hd : decode (m_b X) pc = .ok (.tableswitch dflt lo hi offs, len)) (h : x.toInt < lo ∨ hi < x.toInt) (ht : (pc : Int) + dflt = (tgt : Int)) (k : q_At G X d b sb tgt ls st σ Q) : q_At G X d b sb pc ls (.int x :: st) σ Q := by
  intro p e R s m args below meth c H locs cells slots lsr QW hB h1 h2 hz hR hS hl hk
  exact lv_tableOut hB.1 hB.2.1 hd h ht (k p e R s m args below meth c H locs cells slots lsr QW hB h1 h2 hz hR hS hl hk)

theorem q_tabIn {dflt lo hi : Int} {offs : Array Int} {len : Nat} {x : Int32} {off : Int} {tgt : Nat} (hd : decode (m_b X) pc = .ok (.tableswitch dflt lo hi offs, len)) (h3 : ¬ x.toInt < lo) (h4 : ¬ hi < x.toInt) (ho : offs[(x.toInt - lo).toNat]? = some off) (ht : (pc : Int) + off = (tgt : Int)) (k : q_At G X d b sb tgt ls st σ Q) : q_At G X d b sb pc ls (.int x :: st) σ Q := by
  intro p e R s m args below meth c H locs cells slots lsr QW hB h1 h2 hz hR hS hl hk
  exact lv_tableIn hB.1 hB.2.1 hd h3 h4 ho ht (k p e R s m args below meth c H locs cells slots lsr QW hB h1 h2 hz hR hS hl hk)

theorem q_lookup {dflt : Int} {ps : Array (Int × Int)} {len : Nat} {x : Int32} {off : Int} {tgt : Nat} (hd : decode (m_b X) pc = .ok (.lookupswitch dflt ps, len)) (hp : (ps.toList.zip (ps.toList.drop 1)).all (fun (a, next) => a.1 < next.1) = true) (ho : Op.lookupswitch.offset ps.toList dflt x.toInt = off) (ht : (pc : Int) + off = (tgt : Int)) (k : q_At G X d b sb tgt ls st σ Q) : q_At G X d b sb pc ls (.int x :: st) σ Q := by
  intro p e R s m args below meth c H locs cells slots lsr QW hB h1 h2 hz hR hS hl hk
  exact lv_lookup hB.1 hB.2.1 hd hp ho ht (k p e R s m args below meth c H locs cells slots lsr QW hB h1 h2 hz hR hS hl hk)

theorem q_ldc {idx : Nat} {v : Int32} (hd : q_D X pc (.ldc idx) 2 nx) (hc : Cond.constant (m_y X).cls idx v ∈ q_GT) (k : q_At G X d b sb nx ls (.int v :: st) σ Q) : q_At G X d b sb pc ls st σ Q := by
  intro p e R s m args below meth c H locs cells slots lsr QW hB h1 h2 hz hR hS hl hk
  obtain ⟨hd, rfl⟩ := hd
  exact lv_ldc hB.1 hB.2.1 hB.2.2.2.1 (hB.2.2.2.2.1 _ hc) hd (k p e R s m args below meth c H locs cells slots lsr QW hB h1 h2 hz hR hS hl hk)

theorem q_ldc2 {idx : Nat} {v : Int64} (hd : q_D X pc (.ldc2_w idx) 3 nx) (hc : Cond.constantLong (m_y X).cls idx v ∈ q_GT) (k : q_At G X d b sb nx ls (.long v :: st) σ Q) : q_At G X d b sb pc ls st σ Q := by
  intro p e R s m args below meth c H locs cells slots lsr QW hB h1 h2 hz hR hS hl hk
  obtain ⟨hd, rfl⟩ := hd
  exact lv_ldc2 hB.1 hB.2.1 hB.2.2.2.1 (hB.2.2.2.2.1 _ hc) hd (k p e R s m args below meth c H locs cells slots lsr QW hB h1 h2 hz hR hS hl hk)

end QRULES
