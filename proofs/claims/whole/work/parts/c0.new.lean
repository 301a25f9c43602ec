-- making cells
theorem q_new_n (σ : q_S) : q_n (q_new σ) = q_n σ + 1 := rfl
theorem q_new_I (σ : q_S) (a i : Nat) : q_I (q_new σ) a i = if a = q_n σ then 0 else q_I σ a i := rfl
theorem q_new_L (σ : q_S) (a i : Nat) : q_L (q_new σ) a i = if a = q_n σ then 0 else q_L σ a i := rfl
theorem q_new_R (σ : q_S) (a i : Nat) : q_R (q_new σ) a i = if a = q_n σ then none else q_R σ a i := rfl
theorem q_new_ent {G : q_G} {σ : q_S} {k : Nat} (h : k ≠ q_n σ) : q_ent G (q_new σ) k = q_ent G σ k := by
  have e1 : q_I (q_new σ) k = q_I σ k := by funext i; rw [q_new_I, if_neg h]
  have e2 : q_L (q_new σ) k = q_L σ k := by funext i; rw [q_new_L, if_neg h]
  have e3 : q_R (q_new σ) k = q_R σ k := by funext i; rw [q_new_R, if_neg h]
  have e4 : ∀ j ty, q_fv G (q_new σ) k j ty = q_fv G σ k j ty := fun j ty => by unfold q_fv; split <;> simp only [e1, e2, e3]
  unfold q_ent q_fs
  simp only [e1, e2, e3, e4]
theorem q_wl_new {G : q_G} {σ : q_S} : q_wl G σ ++ [(g_b G + q_n σ, q_ent G (q_new σ) (q_n σ))] = q_wl G (q_new σ) := by
  unfold q_wl
  rw [q_new_n, List.range_succ, List.map_append]
  congr 1
  apply List.map_congr_left
  intro k hk
  rw [List.mem_range] at hk
  rw [q_new_ent (by omega)]
theorem q_fresh {G : q_G} {σ : q_S} {q n : Nat} {e : va_E} {H1 : Heap} (hP : va_P (g_D G) q_cl (q_wl G σ ++ [(q, e)]) H1) (hD : va_D (q_A G) (q_wl G σ ++ [(q, e)])) (hH : H1.size ≤ n + 1) (hz : n ≤ g_b G + q_n σ) : q = g_b G + q_n σ := by
  have hl : (q_wl G σ).length = q_n σ := by simp [q_wl]
  have hq : (q_wl G σ ++ [(q, e)])[q_n σ]? = some (q, e) := by rw [List.getElem?_append_right (by omega), hl]; simp
  have h1 : q < H1.size := q_at_lt (hP _ _ hq)
  have h2 : g_b G ≤ q := hD.2 _ _ hq
  apply Classical.byContradiction
  intro hne
  have h3 : q - g_b G < q_n σ := by omega
  have h4 : (q_wl G σ ++ [(q, e)])[q - g_b G]? = some (g_b G + (q - g_b G), q_ent G σ (q - g_b G)) := by rw [List.getElem?_append_left (by omega), q_wl_get h3]
  have := hD.1 _ _ _ _ h4 hq (by show g_b G + (q - g_b G) = q; omega)
  omega
-- what the making of an object needs
def q_df (ci : Nat) : List Value := (q_fl ci).map fun ty => match ty with
  | 0 => .int 0
  | 1 => .long 0
  | _ => .null
def q_CN (own : String) (idx ci N : Nat) : Prop := ∃ (C : String) (T : u_T) (ty : Nat → FieldType), q_cl[ci]? = some (C, T, N) ∧ (∀ w ∈ u_ws C T N, w ∈ q_GT) ∧ (∀ k, k < N → parseFieldDescriptor (T k).2.2.1 = some (ty k)) ∧ (∀ j, j < N → defaultValue (ty j) = vp_V (q_df ci) j) ∧ Cond.classLink own idx C ∈ q_GT ∧ Cond.instantiable C N ∈ q_GT ∧ Cond.initialized C ∈ q_GT
theorem q_fv_new {G : q_G} {σ : q_S} (j ty : Nat) : q_fv G (q_new σ) (q_n σ) j ty = (match ty with
  | 0 => .int 0
  | 1 => .long 0
  | _ => .null : Value) := by
  have eI : q_I (q_new σ) (q_n σ) j = 0 := by rw [q_new_I, if_pos rfl]
  have eL : q_L (q_new σ) (q_n σ) j = 0 := by rw [q_new_L, if_pos rfl]
  have eR : q_R (q_new σ) (q_n σ) j = none := by rw [q_new_R, if_pos rfl]
  match ty with
  | 0 => exact congrArg Value.int eI
  | 1 => exact congrArg Value.long eL
  | n + 2 => exact congrArg (fun o => va_rf (Option.map (q_ad G) o)) eR
theorem q_fs_new {G : q_G} {σ : q_S} {ci : Nat} : q_fs G (q_new σ) (q_n σ) ci = q_df ci := by
  unfold q_fs q_df
  apply List.ext_getElem?
  intro j
  simp only [List.getElem?_map, List.getElem?_zipIdx]
  cases (q_fl ci)[j]? with
  | none => rfl
  | some ty =>
    simp only [Option.map_some]
    exact congrArg some (q_fv_new _ ty)
section NEW
variable {G : q_G} {X : q_M} {d b sb pc nx : Nat} {ls : List (Option Value)} {st : List Value} {σ : q_S} {Q : Option Value → q_S → Prop}
theorem q_newZ {n : Nat} (hz : q_Z G σ n) (hlt : q_n σ < q_NT) : q_Z G (q_new σ) (n + 1) := fun _ => by
  have := hz hlt
  rw [q_new_n]
  omega
theorem q_newO {idx ci N : Nat} (hd : q_D X pc (.new idx) 3 nx) (hC : q_CN (m_y X).cls idx ci N) (hk : q_kd (q_n σ) = (0, ci)) (k : q_At G X d b sb nx ls (.ref (q_n σ) :: st) (q_new σ) Q) : q_At G X d (1 + b) (N + sb) pc ls st σ Q := by
  intro p e R s m args below meth c H locs cells slots lsr QW hB h1 h2 hz hR hS hl hk2
  obtain ⟨hd, rfl⟩ := hd
  obtain ⟨C, T, ty, g1, g2, g3, g4, g5, g6, g7⟩ := hC
  have hlt : q_n σ < q_NT := q_kd_lt hk (by decide)
  have hb := hB.2.2.2.2.2.2.2.2.2.1
  refine va_new (D := g_D G) hB.1 hB.2.1 hB.2.2.2.2.1 g2 ty g3 hB.2.2.2.1 (hB.2.2.2.2.1 _ g5) (hB.2.2.2.2.1 _ g6) (hB.2.2.2.2.1 _ g7) hB.2.2.2.2.2.2.2.2.1.1 hR (q_wl_D G σ) hS (fun q hq => Nat.le_trans hb hq) g1 g4 (by omega) (by omega) hd (fun q H1 hP1 hD1 hS1 => ?_)
  refine q_size (fun hH => ?_)
  have hq : q = g_b G + q_n σ := q_fresh hP1 hD1 hH (hz hlt)
  subst hq
  rw [← q_fs_new (G := G) (σ := σ), ← q_ent_0 (G := G) (σ := q_new σ) hk, q_wl_new] at hP1
  have := k p e R s m args below meth c H1 locs (cells + 1) (slots + N) lsr QW hB (by omega) (by omega) (q_newZ hz hlt) hP1 hS1 hl hk2
  have hla : q_n σ < 1000 := Nat.lt_trans hlt q_NT_lt
  rwa [List.map_cons, show q_cv G (.ref (q_n σ)) = .ref (g_b G + q_n σ) from by show Value.ref (q_ad G (q_n σ)) = _; rw [q_ad_lt hla]] at this
theorem va_RA_eq {U : State} {c1 c2 : ClassId} {ty : FieldType} (h1 : va_RA U c1 ty) (h2 : va_RA U c2 ty) : c1 = c2 := by
  cases ty with
  | object C =>
    obtain ⟨_, _, _, _, _, a⟩ := h1
    obtain ⟨_, _, _, _, _, b⟩ := h2
    exact Option.some.inj (a.symm.trans b)
  | _ => exact Option.some.inj ((show _ = some c1 from h1).symm.trans (show _ = some c2 from h2))
theorem q_cA_eq {s : State} {cA : ClassId} {ty : FieldType} {i : Nat} (hK : va_K (g_D G) q_cl (q_tys G ++ [(cA, ty)]) s) (hi : (q_tys G)[i]? = some (g_cA G i, ty)) : cA = g_cA G i := by
  have h6 : (q_tys G).length = 6 := rfl
  have a := (hK.2 6 (cA, ty) (by rw [List.getElem?_append_right (by omega), h6]; rfl)).2
  have hlt : i < (q_tys G).length := (List.getElem?_eq_some_iff.mp hi).1
  have b := (hK.2 i (g_cA G i, ty) (by rw [List.getElem?_append_left hlt]; exact hi)).2
  exact va_RA_eq a b
-- a row of a plain sort: t its sort's number, i its class's number
theorem q_newA {t i N : Nat} {n : Int32} {at0 : ArrayType} {ty : FieldType} {a0 : vp_A} (hd : q_D X pc (.newarray at0) 2 nx) (hw : Cond.arrayClass ty ∈ q_GT) (hty : newarray.typeOf at0 = ty) (hk : q_kd (q_n σ) = (t, N)) (ht : t < 9) (hi : (q_tys G)[i]? = some (g_cA G i, ty)) (he : q_ent G (q_new σ) (q_n σ) = .inl (g_cA G i, a0)) (ha : ∀ cA : ClassId, vp_cell cA a0 = arrV cA N (fun _ => defaultValue ty))
    (hn : n = nI N) (hN : N < 2 ^ 31) (hby : N * componentBytes ty ≤ 536870912) (k : q_At G X d b sb nx ls (.ref (q_n σ) :: st) (q_new σ) Q) : q_At G X d (1 + b) (N + sb) pc ls (.int n :: st) σ Q := by
  intro p e R s m args below meth c H locs cells slots lsr QW hB h1 h2 hz hR hS hl hk2
  obtain ⟨hd, rfl⟩ := hd
  subst hn hty
  have hlt : q_n σ < q_NT := q_kd_lt hk ht
  have hb := hB.2.2.2.2.2.2.2.2.2.1
  refine va_newa (D := g_D G) hB.1 hB.2.1 (hB.2.2.2.2.1 _ hw) rfl hB.2.2.2.2.2.2.2.2.1.1 hR (q_wl_D G σ) hS (fun q hq => Nat.le_trans hb hq) ha (nI_pos hN) (nI_clamp hN) hby (by omega) (by omega) hd (fun q cA H1 hK1 hP1 hD1 hS1 => ?_)
  refine q_size (fun hH => ?_)
  have hq : q = g_b G + q_n σ := q_fresh hP1 hD1 hH (hz hlt)
  subst hq
  have hc : cA = g_cA G i := q_cA_eq hK1 hi
  subst hc
  rw [← he, q_wl_new] at hP1
  have := k p e R s m args below meth c H1 locs (cells + 1) (slots + N) lsr QW hB (by omega) (by omega) (q_newZ hz hlt) hP1 hS1 hl hk2
  have hla : q_n σ < 1000 := Nat.lt_trans hlt q_NT_lt
  rwa [List.map_cons, show q_cv G (.ref (q_n σ)) = .ref (g_b G + q_n σ) from by show Value.ref (q_ad G (q_n σ)) = _; rw [q_ad_lt hla]] at this
theorem q_zI : q_I (q_new σ) (q_n σ) = fun _ => 0 := by funext i; rw [q_new_I, if_pos rfl]
theorem q_zL : q_L (q_new σ) (q_n σ) = fun _ => 0 := by funext i; rw [q_new_L, if_pos rfl]
theorem q_by {N : Nat} {ty : FieldType} (hN : N ≤ 100000) (h : componentBytes ty ≤ 8) : N * componentBytes ty ≤ 536870912 := Nat.le_trans (Nat.mul_le_mul hN h) (by decide)
theorem w_arrI : Cond.arrayClass .int ∈ q_GT := by decide +kernel
theorem w_arrL : Cond.arrayClass .long ∈ q_GT := by decide +kernel
theorem w_arrZ : Cond.arrayClass .boolean ∈ q_GT := by decide +kernel
theorem w_arrC : Cond.arrayClass .char ∈ q_GT := by decide +kernel
theorem q_newI {N : Nat} {n : Int32} (hd : q_D X pc (.newarray .int) 2 nx) (hk : q_kd (q_n σ) = (1, N)) (hn : n = nI N) (hN : N ≤ 100000) (k : q_At G X d b sb nx ls (.ref (q_n σ) :: st) (q_new σ) Q) : q_At G X d (1 + b) (N + sb) pc ls (.int n :: st) σ Q :=
  q_newA (i := 0) (a0 := (N, .inl fun _ => 0)) hd w_arrI rfl hk (by decide) rfl (by rw [q_ent_1 hk, q_zI]) (fun cA => rfl) hn (by omega) (q_by (ty := .int) hN (by decide)) k
theorem q_newL {N : Nat} {n : Int32} (hd : q_D X pc (.newarray .long) 2 nx) (hk : q_kd (q_n σ) = (2, N)) (hn : n = nI N) (hN : N ≤ 100000) (k : q_At G X d b sb nx ls (.ref (q_n σ) :: st) (q_new σ) Q) : q_At G X d (1 + b) (N + sb) pc ls (.int n :: st) σ Q :=
  q_newA (i := 1) (a0 := (N, .inr (.inl fun _ => 0))) hd w_arrL rfl hk (by decide) rfl (by rw [q_ent_2 hk, q_zL]) (fun cA => rfl) hn (by omega) (q_by (ty := .long) hN (by decide)) k
theorem q_newB {N : Nat} {n : Int32} (hd : q_D X pc (.newarray .boolean) 2 nx) (hk : q_kd (q_n σ) = (3, N)) (hn : n = nI N) (hN : N ≤ 100000) (k : q_At G X d b sb nx ls (.ref (q_n σ) :: st) (q_new σ) Q) : q_At G X d (1 + b) (N + sb) pc ls (.int n :: st) σ Q :=
  q_newA (i := 2) (a0 := (N, .inl fun _ => 0)) hd w_arrZ rfl hk (by decide) rfl (by rw [q_ent_3 hk, q_zI]) (fun cA => rfl) hn (by omega) (q_by (ty := .boolean) hN (by decide)) k
theorem q_newC {N : Nat} {n : Int32} (hd : q_D X pc (.newarray .char) 2 nx) (hk : q_kd (q_n σ) = (4, N)) (hn : n = nI N) (hN : N ≤ 100000) (k : q_At G X d b sb nx ls (.ref (q_n σ) :: st) (q_new σ) Q) : q_At G X d (1 + b) (N + sb) pc ls (.int n :: st) σ Q :=
  q_newA (i := 3) (a0 := (N, .inl fun _ => 0)) hd w_arrC rfl hk (by decide) rfl (by rw [q_ent_4 hk, q_zI]) (fun cA => rfl) hn (by omega) (q_by (ty := .char) hN (by decide)) k
-- a row of references
theorem q_newQ {t i N idx : Nat} {n : Int32} {C : String} (hd : q_D X pc (.anewarray idx) 3 nx) (hw : Cond.classLink (m_y X).cls idx C ∈ q_GT) (hao : ∀ U H, q_SX G U H → va_AO C U) (hk : q_kd (q_n σ) = (t, N)) (ht : t < 9) (hi : (q_tys G)[i]? = some (g_cA G i, .object C)) (he : q_ent G (q_new σ) (q_n σ) = .inl (g_cA G i, N, .inr (.inr (.inr (.inr (fun _ => none))))))
    (hn : n = nI N) (hN : N ≤ 100000) (k : q_At G X d b sb nx ls (.ref (q_n σ) :: st) (q_new σ) Q) : q_At G X d (1 + b) (N + sb) pc ls (.int n :: st) σ Q := by
  intro p e R s m args below meth c H locs cells slots lsr QW hB h1 h2 hz hR hS hl hk2
  obtain ⟨hd, rfl⟩ := hd
  subst hn
  have hlt : q_n σ < q_NT := q_kd_lt hk ht
  have hb := hB.2.2.2.2.2.2.2.2.2.1
  refine va_newq (D := g_D G) hB.1 hB.2.1 hB.2.2.2.1 (hB.2.2.2.2.1 _ hw) (hao _ _ hB.2.2.2.2.2.2.2.2.1.2.2) hB.2.2.2.2.2.2.2.2.1.1 hR (q_wl_D G σ) hS (fun q hq => Nat.le_trans hb hq) (nI_pos (by omega)) (nI_clamp (by omega)) (by omega) (by omega) (by omega) hd (fun q cA H1 hK1 hP1 hD1 hS1 => ?_)
  refine q_size (fun hH => ?_)
  have hq : q = g_b G + q_n σ := q_fresh hP1 hD1 hH (hz hlt)
  subst hq
  have hc : cA = g_cA G i := q_cA_eq hK1 hi
  subst hc
  rw [← he, q_wl_new] at hP1
  have := k p e R s m args below meth c H1 locs (cells + 1) (slots + N) lsr QW hB (by omega) (by omega) (q_newZ hz hlt) hP1 hS1 hl hk2
  have hla : q_n σ < 1000 := Nat.lt_trans hlt q_NT_lt
  rwa [List.map_cons, show q_cv G (.ref (q_n σ)) = .ref (g_b G + q_n σ) from by show Value.ref (q_ad G (q_n σ)) = _; rw [q_ad_lt hla]] at this
theorem q_zR : (fun j => (q_R (q_new σ) (q_n σ) j).map (q_ad G)) = fun _ => none := by funext i; rw [q_new_R, if_pos rfl]; rfl
theorem q_newLi {N idx : Nat} {n : Int32} (hd : q_D X pc (.anewarray idx) 3 nx) (hw : Cond.classLink (m_y X).cls idx "WallLottery$Life" ∈ q_GT) (hk : q_kd (q_n σ) = (5, N)) (hn : n = nI N) (hN : N ≤ 100000) (k : q_At G X d b sb nx ls (.ref (q_n σ) :: st) (q_new σ) Q) : q_At G X d (1 + b) (N + sb) pc ls (.int n :: st) σ Q :=
  q_newQ (i := 4) hd hw (fun U H h => h.2.2.2.2.2.2.2.2.1) hk (by decide) rfl (by rw [q_ent_5 hk, q_zR]) hn hN k
theorem q_newTl {N idx : Nat} {n : Int32} (hd : q_D X pc (.anewarray idx) 3 nx) (hw : Cond.classLink (m_y X).cls idx "WallLottery$Tales" ∈ q_GT) (hk : q_kd (q_n σ) = (6, N)) (hn : n = nI N) (hN : N ≤ 100000) (k : q_At G X d b sb nx ls (.ref (q_n σ) :: st) (q_new σ) Q) : q_At G X d (1 + b) (N + sb) pc ls (.int n :: st) σ Q :=
  q_newQ (i := 5) hd hw (fun U H h => h.2.2.2.2.2.2.2.2.2) hk (by decide) rfl (by rw [q_ent_6 hk, q_zR]) hn hN k
-- storing a reference into a row
theorem q_setR_row2 {a i v : Nat} : (fun j => (q_R (q_setR σ a i (some v)) a j).map (q_ad G)) = va_up (fun j => (q_R σ a j).map (q_ad G)) i (some (q_ad G v)) := by
  funext j
  rw [q_setR_R]
  unfold va_up
  by_cases h : j = i
  · subst h; simp
  · simp [h]
theorem q_aast {t i0 a n i v ci N : Nat} {T : u_T} {C : String} {x : Int32} (hd : q_D X pc .aastore 1 nx) (ht : t < 9) (hk : q_kd a = (t, n)) (hen : ∀ σ', q_ent G σ' a = .inl (g_cA G i0, n, .inr (.inr (.inr (.inr fun j => (q_R σ' a j).map (q_ad G)))))) (hi0 : (q_tys G)[i0]? = some (g_cA G i0, .object C)) (ha : a < q_n σ) (hkv : q_kd v = (0, ci)) (hv : v < q_n σ) (hc : q_cl[ci]? = some (C, T, N)) (hx : x = nI i) (hi : i < n) (hn : n < 2 ^ 31) (k : q_At G X d b sb nx ls st (q_setR σ a i (some v)) Q) : q_At G X d b sb pc ls (.ref v :: .int x :: .ref a :: st) σ Q := by
  intro p e R s m args below meth c H locs cells slots lsr QW hB h1 h2 hz hR hS hl hk2
  obtain ⟨hd, rfl⟩ := hd
  subst hx
  have hla : a < 1000 := Nat.lt_of_lt_of_le (q_kd_lt hk ht) (Nat.le_of_lt q_NT_lt)
  have hlv : v < 1000 := Nat.lt_of_lt_of_le (q_kd_lt hkv (by decide)) (Nat.le_of_lt q_NT_lt)
  have he : (q_wl G σ)[a]? = some (q_ad G a, .inl (g_cA G i0, n, .inr (.inr (.inr (.inr fun j => (q_R σ a j).map (q_ad G)))))) := by rw [q_wl_get ha, hen, q_ad_lt hla]
  have hev : (q_wl G σ)[v]? = some (q_ad G v, .inr (ci, q_fs G σ v ci)) := by rw [q_wl_get hv, q_ent_0 hkv, q_ad_lt hlv]
  have hcl : (nI i).toNatClampNeg = i := nI_clamp (by omega)
  have hset : (q_wl G σ).set a (q_ad G a, .inl (g_cA G i0, n, .inr (.inr (.inr (.inr (va_up (fun j => (q_R σ a j).map (q_ad G)) (nI i).toNatClampNeg (some (q_ad G v)))))))) = q_wl G (q_setR σ a i (some v)) := by
    rw [q_ad_lt hla]
    exact q_wl_set rfl (by rw [hen, hcl, q_setR_row2]) (fun a' h => q_setR_ent h)
  refine va_astq (D := g_D G) (r := (C, T, N)) hB.1 hB.2.1 hB.2.2.2.2.2.2.2.2.1.1 hR (q_wl_D G σ) hS a i0 v ci he hi0 hev hc (vp_in_nI hi hn) hd (fun H1 locs1 hP1 _ hS1 => ?_)
  rw [hset] at hP1
  exact k p e R s m args below meth c H1 locs1 cells slots lsr QW hB h1 h2 hz hP1 hS1 hl hk2
end NEW
