
theorem q_setI_I {σ : q_S} {a i : Nat} {v : Int32} (a' i' : Nat) : q_I (q_setI σ a i v) a' i' = if a' = a ∧ i' = i then v else q_I σ a' i' := rfl
theorem q_setL_L {σ : q_S} {a i : Nat} {v : Int64} (a' i' : Nat) : q_L (q_setL σ a i v) a' i' = if a' = a ∧ i' = i then v else q_L σ a' i' := rfl
theorem q_setR_R {σ : q_S} {a i : Nat} {v : Option Nat} (a' i' : Nat) : q_R (q_setR σ a i v) a' i' = if a' = a ∧ i' = i then v else q_R σ a' i' := rfl
theorem q_fs_get {G : q_G} {σ : q_S} {k ci j ty : Nat} (h : (q_fl ci)[j]? = some ty) : (q_fs G σ k ci)[j]? = some (q_fv G σ k j ty) := by
  simp [q_fs, List.getElem?_zipIdx, h]
theorem q_fs_len {G : q_G} {σ : q_S} {k ci : Nat} : (q_fs G σ k ci).length = (q_fl ci).length := by simp [q_fs]
theorem q_fs_ext {G : q_G} {σ : q_S} {k ci : Nat} {l : List Value} (hl : l.length = (q_fl ci).length) (h : ∀ j ty, (q_fl ci)[j]? = some ty → l[j]? = some (q_fv G σ k j ty)) : l = q_fs G σ k ci := by
  apply List.ext_getElem?
  intro j
  by_cases hj : j < (q_fl ci).length
  · obtain ⟨ty, hty⟩ : ∃ ty, (q_fl ci)[j]? = some ty := ⟨_, List.getElem?_eq_getElem hj⟩
    rw [h j ty hty, q_fs_get hty]
  · rw [List.getElem?_eq_none (by omega), List.getElem?_eq_none (by rw [q_fs_len]; omega)]
theorem q_fs_set {G : q_G} {σ σ' : q_S} {k ci j ty : Nat} {v : Value} (hty : (q_fl ci)[j]? = some ty) (hv : v = q_fv G σ' k j ty) (ho : ∀ j' ty', j' ≠ j → q_fv G σ' k j' ty' = q_fv G σ k j' ty') : (q_fs G σ k ci).set j v = q_fs G σ' k ci := by
  apply q_fs_ext
  · rw [List.length_set, q_fs_len]
  · intro j' ty' h'
    by_cases hj : j' = j
    · subst hj
      rw [h'] at hty
      cases hty
      have hlt : j' < (q_fl ci).length := (List.getElem?_eq_some_iff.mp h').1
      rw [List.getElem?_set_self (by rw [q_fs_len]; exact hlt), hv]
    · rw [List.getElem?_set_ne (fun e => hj e.symm), q_fs_get h', ho j' ty' hj]
theorem q_ent_0 {G : q_G} {σ : q_S} {k ci : Nat} (h : q_kd k = (0, ci)) : q_ent G σ k = .inr (ci, q_fs G σ k ci) := by simp only [q_ent, h]
theorem q_ent_1 {G : q_G} {σ : q_S} {k n : Nat} (h : q_kd k = (1, n)) : q_ent G σ k = .inl (g_cA G 0, n, .inl (q_I σ k)) := by simp only [q_ent, h]
theorem q_ent_2 {G : q_G} {σ : q_S} {k n : Nat} (h : q_kd k = (2, n)) : q_ent G σ k = .inl (g_cA G 1, n, .inr (.inl (q_L σ k))) := by simp only [q_ent, h]
theorem q_ent_3 {G : q_G} {σ : q_S} {k n : Nat} (h : q_kd k = (3, n)) : q_ent G σ k = .inl (g_cA G 2, n, .inl (q_I σ k)) := by simp only [q_ent, h]
theorem q_ent_4 {G : q_G} {σ : q_S} {k n : Nat} (h : q_kd k = (4, n)) : q_ent G σ k = .inl (g_cA G 3, n, .inl (q_I σ k)) := by simp only [q_ent, h]
theorem q_ent_5 {G : q_G} {σ : q_S} {k n : Nat} (h : q_kd k = (5, n)) : q_ent G σ k = .inl (g_cA G 4, n, .inr (.inr (.inr (.inr fun j => (q_R σ k j).map (q_ad G))))) := by simp only [q_ent, h]
theorem q_ent_6 {G : q_G} {σ : q_S} {k n : Nat} (h : q_kd k = (6, n)) : q_ent G σ k = .inl (g_cA G 5, n, .inr (.inr (.inr (.inr fun j => (q_R σ k j).map (q_ad G))))) := by simp only [q_ent, h]
theorem q_ent_same {G : q_G} {σ σ' : q_S} {k : Nat} (hI : q_I σ' k = q_I σ k) (hL : q_L σ' k = q_L σ k) (hR : q_R σ' k = q_R σ k) : q_ent G σ' k = q_ent G σ k := by
  have hf : ∀ ci, q_fs G σ' k ci = q_fs G σ k ci := fun ci => q_fs_ext q_fs_len (fun j ty h => by rw [q_fs_get h]; simp only [q_fv, hI, hL, hR])
  unfold q_ent
  simp only [hI, hL, hR, hf]
theorem q_setI_ent {G : q_G} {σ : q_S} {a i : Nat} {v : Int32} {j : Nat} (h : j ≠ a) : q_ent G (q_setI σ a i v) j = q_ent G σ j := q_ent_same (funext fun i' => by rw [q_setI_I, if_neg (fun e => h e.1)]) rfl rfl
theorem q_setL_ent {G : q_G} {σ : q_S} {a i : Nat} {v : Int64} {j : Nat} (h : j ≠ a) : q_ent G (q_setL σ a i v) j = q_ent G σ j := q_ent_same rfl (funext fun i' => by rw [q_setL_L, if_neg (fun e => h e.1)]) rfl
theorem q_setR_ent {G : q_G} {σ : q_S} {a i : Nat} {v : Option Nat} {j : Nat} (h : j ≠ a) : q_ent G (q_setR σ a i v) j = q_ent G σ j := q_ent_same rfl rfl (funext fun i' => by rw [q_setR_R, if_neg (fun e => h e.1)])
theorem q_setI_row {σ : q_S} {a i : Nat} {v : Int32} : upd (q_I σ a) i v = q_I (q_setI σ a i v) a := funext fun j => by
  rw [q_setI_I]
  simp [upd]
theorem q_setL_row {σ : q_S} {a i : Nat} {v : Int64} : vp_updL (q_L σ a) i v = q_L (q_setL σ a i v) a := funext fun j => by
  rw [q_setL_L]
  simp [vp_updL]
theorem q_setR_row {G : q_G} {σ : q_S} {a i : Nat} {v : Nat} : va_up (fun j => (q_R σ a j).map (q_ad G)) i (some (q_ad G v)) = fun j => (q_R (q_setR σ a i (some v)) a j).map (q_ad G) := funext fun j => by
  rw [q_setR_R]
  by_cases h : j = i
  · simp [va_up, h]
  · simp [va_up, h]
theorem q_ad_lt {G : q_G} {k : Nat} (h : k < 1000) : q_ad G k = g_b G + k := by simp [q_ad, h]
theorem q_kd_lt {a t x : Nat} (h : q_kd a = (t, x)) (ht : t < 9) : a < q_NT := by
  by_cases hl : a < q_kds.length
  · exact hl
  · rw [q_kd, List.getD_eq_getElem?_getD, List.getElem?_eq_none (by omega)] at h
    cases h
    omega
theorem q_NT_lt : q_NT < 1000 := by decide
-- a field by its pool entry: class number, place, kind
def q_F (own : String) (idx ci j ty : Nat) : Prop := ∃ (C : String) (T : u_T) (N : Nat), q_cl[ci]? = some (C, T, N) ∧ j < N ∧ Cond.fieldLink own idx (T j).1 (T j).2.1 (T j).2.2.1 ∈ q_GT ∧ (q_fl ci)[j]? = some ty ∧ ∀ w ∈ u_ws C T N, w ∈ q_GT
-- and written: its type, and that it isn't final, or is in a constructor of its class
def q_FP (own : String) (idx ci j ty : Nat) (ft : FieldType) (fin : Bool) : Prop := ∃ (C : String) (T : u_T) (N : Nat) (ty0 : Nat → FieldType), q_cl[ci]? = some (C, T, N) ∧ j < N ∧ Cond.fieldLink own idx (T j).1 (T j).2.1 (T j).2.2.1 ∈ q_GT ∧ (q_fl ci)[j]? = some ty ∧ (∀ w ∈ u_ws C T N, w ∈ q_GT) ∧
  (∀ k, k < N → parseFieldDescriptor (T k).2.2.1 = some (ty0 k)) ∧ (∀ a, a < N → ∀ b, b < N → a ≠ b → (T a).2.1 ≠ (T b).2.1) ∧ parseFieldDescriptor (T j).2.2.1 = some ft ∧ (T j).2.2.2 = fin ∧ (fin = true → (T j).1 = own)
section QMEM
variable {G : q_G} {X : q_M} {d b sb pc nx : Nat} {ls : List (Option Value)} {st : List Value} {σ : q_S} {Q : Option Value → q_S → Prop}
theorem q_getV {a idx ci j ty : Nat} {w : Value} (hd : q_D X pc (.getfield idx) 3 nx) (hf : q_F (m_y X).cls idx ci j ty) (hk : q_kd a = (0, ci)) (ha : a < q_n σ) (hw : q_fv G σ a j ty = q_cv G w) (k : q_At G X d b sb nx ls (w :: st) σ Q) : q_At G X d b sb pc ls (.ref a :: st) σ Q := by
  intro p e R s m args below meth c H locs cells slots lsr QW hB h1 h2 hz hR hS hl hk2
  obtain ⟨hd, rfl⟩ := hd
  obtain ⟨C, T, N, hc, hj, hlk, hty, hin⟩ := hf
  have hk9 := k p e R s m args below meth c H locs cells slots lsr QW hB h1 h2 hz hR hS hl hk2
  have hla : a < 1000 := Nat.lt_of_lt_of_le (q_kd_lt hk (by decide)) (Nat.le_of_lt q_NT_lt)
  have he : (q_wl G σ)[a]? = some (q_ad G a, .inr (ci, q_fs G σ a ci)) := by rw [q_wl_get ha, q_ent_0 hk, q_ad_lt hla]
  have hv : (q_fs G σ a ci)[j]? = some (q_cv G w) := by rw [q_fs_get hty, hw]
  exact va_get (D := g_D G) (ci := ci) (C := C) (T := T) (N := N) (ref := (T j).1) hB.1 hB.2.1 hB.2.2.2.2.1 hin hB.2.2.2.1 hB.2.2.2.2.2.2.2.2.1.1 hR a he hc j hj (hB.2.2.2.2.1 _ hlk) (fun _ h9 => h9) hv hd hk9
theorem q_getI {a idx ci j : Nat} (hd : q_D X pc (.getfield idx) 3 nx) (hf : q_F (m_y X).cls idx ci j 0) (hk : q_kd a = (0, ci)) (ha : a < q_n σ) (k : q_At G X d b sb nx ls (.int (q_I σ a j) :: st) σ Q) : q_At G X d b sb pc ls (.ref a :: st) σ Q := q_getV (w := .int (q_I σ a j)) hd hf hk ha rfl k
theorem q_getL {a idx ci j : Nat} (hd : q_D X pc (.getfield idx) 3 nx) (hf : q_F (m_y X).cls idx ci j 1) (hk : q_kd a = (0, ci)) (ha : a < q_n σ) (k : q_At G X d b sb nx ls (.long (q_L σ a j) :: st) σ Q) : q_At G X d b sb pc ls (.ref a :: st) σ Q := q_getV (w := .long (q_L σ a j)) hd hf hk ha rfl k
theorem q_getR {a idx ci j v : Nat} (hd : q_D X pc (.getfield idx) 3 nx) (hf : q_F (m_y X).cls idx ci j 2) (hk : q_kd a = (0, ci)) (ha : a < q_n σ) (hv : q_R σ a j = some v) (k : q_At G X d b sb nx ls (.ref v :: st) σ Q) : q_At G X d b sb pc ls (.ref a :: st) σ Q := q_getV (w := .ref v) hd hf hk ha (by show va_rf _ = _; rw [hv]; rfl) k
theorem q_putV {a idx ci j ty : Nat} {ft : FieldType} {fin : Bool} {w : Value} {σ' : q_S} (hd : q_D X pc (.putfield idx) 3 nx) (hf : q_FP (m_y X).cls idx ci j ty ft fin) (hfn : fin = true → (m_y X).name = "<init>") (hk : q_kd a = (0, ci)) (ha : a < q_n σ) (hn : narrow ft (q_cv G w) = q_cv G w) (hfit : fits ft (q_cv G w) = true)
    (hσn : q_n σ' = q_n σ) (hσw : q_cv G w = q_fv G σ' a j ty) (hσo : ∀ j' ty', j' ≠ j → q_fv G σ' a j' ty' = q_fv G σ a j' ty') (hσe : ∀ a', a' ≠ a → q_ent G σ' a' = q_ent G σ a') (k : q_At G X d b sb nx ls st σ' Q) : q_At G X d b sb pc ls (w :: .ref a :: st) σ Q := by
  intro p e R s m args below meth c H locs cells slots lsr QW hB h1 h2 hz hR hS hl hk2
  obtain ⟨hd, rfl⟩ := hd
  obtain ⟨C, T, N, ty0, hc, hj, hlk, hty, hin, hty0, hnm, hpd, hfin, hdec⟩ := hf
  have hla : a < 1000 := Nat.lt_of_lt_of_le (q_kd_lt hk (by decide)) (Nat.le_of_lt q_NT_lt)
  have he : (q_wl G σ)[a]? = some (q_ad G a, .inr (ci, q_fs G σ a ci)) := by rw [q_wl_get ha, q_ent_0 hk, q_ad_lt hla]
  have hset : (q_wl G σ).set a (q_ad G a, .inr (ci, (q_fs G σ a ci).set j (q_cv G w))) = q_wl G σ' := by
    rw [q_ad_lt hla]
    exact q_wl_set hσn (by rw [q_ent_0 hk, q_fs_set hty hσw hσo]) hσe
  have hlen : j < (q_fs G σ a ci).length := by rw [q_fs_len]; exact (List.getElem?_eq_some_iff.mp hty).1
  have kk : ∀ (H1 : Heap) (locs1 : List Loc), va_P (g_D G) q_cl ((q_wl G σ).set a (q_ad G a, .inr (ci, (q_fs G σ a ci).set j (q_cv G w)))) H1 → va_D (q_A G) ((q_wl G σ).set a (q_ad G a, .inr (ci, (q_fs G σ a ci).set j (q_cv G w)))) → va_S (q_A G) s.heap H1 locs1 → W p (g_l G) e R s m args below meth c H1 locs1 cells slots QW (F0 m (pc + 3) lsr (st.map (q_cv G))) := by
    intro H1 locs1 hP1 _ hS1
    rw [hset] at hP1
    exact k p e R s m args below meth c H1 locs1 cells slots lsr QW hB h1 h2 (fun h => by rw [hσn] at h ⊢; exact hz h) hP1 hS1 hl hk2
  cases hfe : fin
  · exact va_put (D := g_D G) (ci := ci) (C := C) (T := T) (N := N) (ref := (T j).1) hB.1 hB.2.1 hB.2.2.2.2.1 hin ty0 hty0 hnm hB.2.2.2.1 hB.2.2.2.2.2.2.2.2.1.1 hR (q_wl_D G σ) hS a he hc j hj (hB.2.2.2.2.1 _ hlk) (fun _ h9 => h9) (hfin.trans hfe) hpd hn hfit hlen hd kk
  · exact va_putF (D := g_D G) (ci := ci) (C := C) (T := T) (N := N) (ref := (T j).1) hB.1 hB.2.1 hB.2.2.2.2.1 hin ty0 hty0 hnm hB.2.2.2.1 hB.2.2.2.2.2.2.2.2.1.1 hR (q_wl_D G σ) hS a he hc j hj (hB.2.2.2.2.1 _ hlk) (fun _ h9 => h9) (hfin.trans hfe) (hB.2.2.2.2.2.2.2.1.trans (hfn hfe)) (hdec hfe) hpd hn hfit hlen hd kk
theorem q_putI {a idx ci j : Nat} {ft : FieldType} {fin : Bool} {v : Int32} (hd : q_D X pc (.putfield idx) 3 nx) (hf : q_FP (m_y X).cls idx ci j 0 ft fin) (hfn : fin = true → (m_y X).name = "<init>") (hk : q_kd a = (0, ci)) (ha : a < q_n σ) (hn : narrow ft (.int v) = .int v) (hfit : fits ft (.int v) = true) (k : q_At G X d b sb nx ls st (q_setI σ a j v) Q) : q_At G X d b sb pc ls (.int v :: .ref a :: st) σ Q :=
  q_putV (w := .int v) (σ' := q_setI σ a j v) hd hf hfn hk ha hn hfit rfl (by show _ = Value.int _; rw [q_setI_I, if_pos ⟨rfl, rfl⟩]; rfl) (fun j' ty' h => by unfold q_fv; split <;> first | (rw [q_setI_I, if_neg (fun e => h e.2)]; done) | rfl) (fun a' h => q_setI_ent h) k
theorem q_putL {a idx ci j : Nat} {ft : FieldType} {fin : Bool} {v : Int64} (hd : q_D X pc (.putfield idx) 3 nx) (hf : q_FP (m_y X).cls idx ci j 1 ft fin) (hfn : fin = true → (m_y X).name = "<init>") (hk : q_kd a = (0, ci)) (ha : a < q_n σ) (hn : narrow ft (.long v) = .long v) (hfit : fits ft (.long v) = true) (k : q_At G X d b sb nx ls st (q_setL σ a j v) Q) : q_At G X d b sb pc ls (.long v :: .ref a :: st) σ Q :=
  q_putV (w := .long v) (σ' := q_setL σ a j v) hd hf hfn hk ha hn hfit rfl (by show _ = Value.long _; rw [q_setL_L, if_pos ⟨rfl, rfl⟩]; rfl) (fun j' ty' h => by unfold q_fv; split <;> first | (rw [q_setL_L, if_neg (fun e => h e.2)]; done) | rfl) (fun a' h => q_setL_ent h) k
theorem q_putR {a idx ci j v : Nat} {ft : FieldType} {fin : Bool} (hd : q_D X pc (.putfield idx) 3 nx) (hf : q_FP (m_y X).cls idx ci j 2 ft fin) (hfn : fin = true → (m_y X).name = "<init>") (hk : q_kd a = (0, ci)) (ha : a < q_n σ) (hn : ∀ q, narrow ft (.ref q) = .ref q) (hfit : ∀ q, fits ft (.ref q) = true) (k : q_At G X d b sb nx ls st (q_setR σ a j (some v)) Q) : q_At G X d b sb pc ls (.ref v :: .ref a :: st) σ Q :=
  q_putV (w := .ref v) (σ' := q_setR σ a j (some v)) hd hf hfn hk ha (hn _) (hfit _) rfl (by show _ = va_rf _; rw [q_setR_R, if_pos ⟨rfl, rfl⟩]; rfl) (fun j' ty' h => by unfold q_fv; split <;> first | (rw [q_setR_R, if_neg (fun e => h e.2)]; done) | rfl) (fun a' h => q_setR_ent h) k

theorem q_iald {a n i : Nat} {x : Int32} (hd : q_D X pc .iaload 1 nx) (hk : q_kd a = (1, n)) (ha : a < q_n σ) (hx : x = nI i) (hi : i < n) (hn : n < 2 ^ 31) (k : q_At G X d b sb nx ls (.int (q_I σ a i) :: st) σ Q) : q_At G X d b sb pc ls (.int x :: .ref a :: st) σ Q := by
  intro p e R s m args below meth c H locs cells slots lsr QW hB h1 h2 hz hR hS hl hk2
  obtain ⟨hd, rfl⟩ := hd
  subst hx
  have hk9 := k p e R s m args below meth c H locs cells slots lsr QW hB h1 h2 hz hR hS hl hk2
  have hla : a < 1000 := Nat.lt_of_lt_of_le (q_kd_lt hk (by decide)) (Nat.le_of_lt q_NT_lt)
  have he : (q_wl G σ)[a]? = some (q_ad G a, .inl (g_cA G 0, n, .inl (q_I σ a))) := by rw [q_wl_get ha, q_ent_1 hk, q_ad_lt hla]
  have hcl : (nI i).toNatClampNeg = i := nI_clamp (by omega)
  refine va_iald (D := g_D G) hB.1 hB.2.1 hB.2.2.2.2.2.2.2.2.1.1 hR a 0 he rfl (vp_in_nI hi hn) hd ?_
  rw [hcl]
  exact hk9

theorem q_lald {a n i : Nat} {x : Int32} (hd : q_D X pc .laload 1 nx) (hk : q_kd a = (2, n)) (ha : a < q_n σ) (hx : x = nI i) (hi : i < n) (hn : n < 2 ^ 31) (k : q_At G X d b sb nx ls (.long (q_L σ a i) :: st) σ Q) : q_At G X d b sb pc ls (.int x :: .ref a :: st) σ Q := by
  intro p e R s m args below meth c H locs cells slots lsr QW hB h1 h2 hz hR hS hl hk2
  obtain ⟨hd, rfl⟩ := hd
  subst hx
  have hk9 := k p e R s m args below meth c H locs cells slots lsr QW hB h1 h2 hz hR hS hl hk2
  have hla : a < 1000 := Nat.lt_of_lt_of_le (q_kd_lt hk (by decide)) (Nat.le_of_lt q_NT_lt)
  have he : (q_wl G σ)[a]? = some (q_ad G a, .inl (g_cA G 1, n, .inr (.inl (q_L σ a)))) := by rw [q_wl_get ha, q_ent_2 hk, q_ad_lt hla]
  have hcl : (nI i).toNatClampNeg = i := nI_clamp (by omega)
  refine va_lald (D := g_D G) hB.1 hB.2.1 hB.2.2.2.2.2.2.2.2.1.1 hR a 1 he rfl (vp_in_nI hi hn) hd ?_
  rw [hcl]
  exact hk9

theorem q_zald {a n i : Nat} {x : Int32} (hd : q_D X pc .baload 1 nx) (hk : q_kd a = (3, n)) (ha : a < q_n σ) (hx : x = nI i) (hi : i < n) (hn : n < 2 ^ 31) (k : q_At G X d b sb nx ls (.int (q_I σ a i) :: st) σ Q) : q_At G X d b sb pc ls (.int x :: .ref a :: st) σ Q := by
  intro p e R s m args below meth c H locs cells slots lsr QW hB h1 h2 hz hR hS hl hk2
  obtain ⟨hd, rfl⟩ := hd
  subst hx
  have hk9 := k p e R s m args below meth c H locs cells slots lsr QW hB h1 h2 hz hR hS hl hk2
  have hla : a < 1000 := Nat.lt_of_lt_of_le (q_kd_lt hk (by decide)) (Nat.le_of_lt q_NT_lt)
  have he : (q_wl G σ)[a]? = some (q_ad G a, .inl (g_cA G 2, n, .inl (q_I σ a))) := by rw [q_wl_get ha, q_ent_3 hk, q_ad_lt hla]
  have hcl : (nI i).toNatClampNeg = i := nI_clamp (by omega)
  refine va_zald (D := g_D G) hB.1 hB.2.1 hB.2.2.2.2.2.2.2.2.1.1 hR a 2 he rfl (vp_in_nI hi hn) hd ?_
  rw [hcl]
  exact hk9

theorem q_cald {a n i : Nat} {x : Int32} (hd : q_D X pc .caload 1 nx) (hk : q_kd a = (4, n)) (ha : a < q_n σ) (hx : x = nI i) (hi : i < n) (hn : n < 2 ^ 31) (k : q_At G X d b sb nx ls (.int (q_I σ a i) :: st) σ Q) : q_At G X d b sb pc ls (.int x :: .ref a :: st) σ Q := by
  intro p e R s m args below meth c H locs cells slots lsr QW hB h1 h2 hz hR hS hl hk2
  obtain ⟨hd, rfl⟩ := hd
  subst hx
  have hk9 := k p e R s m args below meth c H locs cells slots lsr QW hB h1 h2 hz hR hS hl hk2
  have hla : a < 1000 := Nat.lt_of_lt_of_le (q_kd_lt hk (by decide)) (Nat.le_of_lt q_NT_lt)
  have he : (q_wl G σ)[a]? = some (q_ad G a, .inl (g_cA G 3, n, .inl (q_I σ a))) := by rw [q_wl_get ha, q_ent_4 hk, q_ad_lt hla]
  have hcl : (nI i).toNatClampNeg = i := nI_clamp (by omega)
  refine va_cald (D := g_D G) hB.1 hB.2.1 hB.2.2.2.2.2.2.2.2.1.1 hR a 3 he rfl (vp_in_nI hi hn) hd ?_
  rw [hcl]
  exact hk9

theorem q_ald5 {a n i v : Nat} {x : Int32} (hd : q_D X pc .aaload 1 nx) (hk : q_kd a = (5, n)) (ha : a < q_n σ) (hx : x = nI i) (hi : i < n) (hn : n < 2 ^ 31) (hv : q_R σ a i = some v) (k : q_At G X d b sb nx ls (.ref v :: st) σ Q) : q_At G X d b sb pc ls (.int x :: .ref a :: st) σ Q := by
  intro p e R s m args below meth c H locs cells slots lsr QW hB h1 h2 hz hR hS hl hk2
  obtain ⟨hd, rfl⟩ := hd
  subst hx
  have hk9 := k p e R s m args below meth c H locs cells slots lsr QW hB h1 h2 hz hR hS hl hk2
  have hla : a < 1000 := Nat.lt_of_lt_of_le (q_kd_lt hk (by decide)) (Nat.le_of_lt q_NT_lt)
  have he : (q_wl G σ)[a]? = some (q_ad G a, .inl (g_cA G 4, n, .inr (.inr (.inr (.inr fun j => (q_R σ a j).map (q_ad G)))))) := by rw [q_wl_get ha, q_ent_5 hk, q_ad_lt hla]
  have hcl : (nI i).toNatClampNeg = i := nI_clamp (by omega)
  refine va_aldq (D := g_D G) hB.1 hB.2.1 hB.2.2.2.2.2.2.2.2.1.1 hR a 4 he rfl (vp_in_nI hi hn) hd ?_
  rw [hcl, hv]
  exact hk9

theorem q_ald6 {a n i v : Nat} {x : Int32} (hd : q_D X pc .aaload 1 nx) (hk : q_kd a = (6, n)) (ha : a < q_n σ) (hx : x = nI i) (hi : i < n) (hn : n < 2 ^ 31) (hv : q_R σ a i = some v) (k : q_At G X d b sb nx ls (.ref v :: st) σ Q) : q_At G X d b sb pc ls (.int x :: .ref a :: st) σ Q := by
  intro p e R s m args below meth c H locs cells slots lsr QW hB h1 h2 hz hR hS hl hk2
  obtain ⟨hd, rfl⟩ := hd
  subst hx
  have hk9 := k p e R s m args below meth c H locs cells slots lsr QW hB h1 h2 hz hR hS hl hk2
  have hla : a < 1000 := Nat.lt_of_lt_of_le (q_kd_lt hk (by decide)) (Nat.le_of_lt q_NT_lt)
  have he : (q_wl G σ)[a]? = some (q_ad G a, .inl (g_cA G 5, n, .inr (.inr (.inr (.inr fun j => (q_R σ a j).map (q_ad G)))))) := by rw [q_wl_get ha, q_ent_6 hk, q_ad_lt hla]
  have hcl : (nI i).toNatClampNeg = i := nI_clamp (by omega)
  refine va_aldq (D := g_D G) hB.1 hB.2.1 hB.2.2.2.2.2.2.2.2.1.1 hR a 5 he rfl (vp_in_nI hi hn) hd ?_
  rw [hcl, hv]
  exact hk9

theorem q_iast {a n i : Nat} {x : Int32} {v : Int32} (hd : q_D X pc .iastore 1 nx) (hk : q_kd a = (1, n)) (ha : a < q_n σ) (hx : x = nI i) (hi : i < n) (hn : n < 2 ^ 31) (k : q_At G X d b sb nx ls st (q_setI σ a i v) Q) : q_At G X d b sb pc ls (.int v :: .int x :: .ref a :: st) σ Q := by
  intro p e R s m args below meth c H locs cells slots lsr QW hB h1 h2 hz hR hS hl hk2
  obtain ⟨hd, rfl⟩ := hd
  subst hx
  have hla : a < 1000 := Nat.lt_of_lt_of_le (q_kd_lt hk (by decide)) (Nat.le_of_lt q_NT_lt)
  have he : (q_wl G σ)[a]? = some (q_ad G a, .inl (g_cA G 0, n, .inl (q_I σ a))) := by rw [q_wl_get ha, q_ent_1 hk, q_ad_lt hla]
  have hcl : (nI i).toNatClampNeg = i := nI_clamp (by omega)
  have hset : (q_wl G σ).set a (q_ad G a, .inl (g_cA G 0, n, .inl (upd (q_I σ a) (nI i).toNatClampNeg v))) = q_wl G (q_setI σ a i v) := by
    rw [q_ad_lt hla]
    exact q_wl_set rfl (by rw [q_ent_1 hk, hcl, q_setI_row]) (fun a' h => q_setI_ent h)
  refine va_iast (D := g_D G) hB.1 hB.2.1 hB.2.2.2.2.2.2.2.2.1.1 hR (q_wl_D G σ) hS a 0 he rfl (vp_in_nI hi hn) hd (fun H1 locs1 hP1 _ hS1 => ?_)
  rw [hset] at hP1
  exact k p e R s m args below meth c H1 locs1 cells slots lsr QW hB h1 h2 hz hP1 hS1 hl hk2

theorem q_last {a n i : Nat} {x : Int32} {v : Int64} (hd : q_D X pc .lastore 1 nx) (hk : q_kd a = (2, n)) (ha : a < q_n σ) (hx : x = nI i) (hi : i < n) (hn : n < 2 ^ 31) (k : q_At G X d b sb nx ls st (q_setL σ a i v) Q) : q_At G X d b sb pc ls (.long v :: .int x :: .ref a :: st) σ Q := by
  intro p e R s m args below meth c H locs cells slots lsr QW hB h1 h2 hz hR hS hl hk2
  obtain ⟨hd, rfl⟩ := hd
  subst hx
  have hla : a < 1000 := Nat.lt_of_lt_of_le (q_kd_lt hk (by decide)) (Nat.le_of_lt q_NT_lt)
  have he : (q_wl G σ)[a]? = some (q_ad G a, .inl (g_cA G 1, n, .inr (.inl (q_L σ a)))) := by rw [q_wl_get ha, q_ent_2 hk, q_ad_lt hla]
  have hcl : (nI i).toNatClampNeg = i := nI_clamp (by omega)
  have hset : (q_wl G σ).set a (q_ad G a, .inl (g_cA G 1, n, .inr (.inl (vp_updL (q_L σ a) (nI i).toNatClampNeg v)))) = q_wl G (q_setL σ a i v) := by
    rw [q_ad_lt hla]
    exact q_wl_set rfl (by rw [q_ent_2 hk, hcl, q_setL_row]) (fun a' h => q_setL_ent h)
  refine va_last (D := g_D G) hB.1 hB.2.1 hB.2.2.2.2.2.2.2.2.1.1 hR (q_wl_D G σ) hS a 1 he rfl (vp_in_nI hi hn) hd (fun H1 locs1 hP1 _ hS1 => ?_)
  rw [hset] at hP1
  exact k p e R s m args below meth c H1 locs1 cells slots lsr QW hB h1 h2 hz hP1 hS1 hl hk2

theorem q_zast {a n i : Nat} {x : Int32} {v : Int32} (hd : q_D X pc .bastore 1 nx) (hk : q_kd a = (3, n)) (ha : a < q_n σ) (hx : x = nI i) (hi : i < n) (hn : n < 2 ^ 31) (k : q_At G X d b sb nx ls st (q_setI σ a i (vp_nar .boolean v)) Q) : q_At G X d b sb pc ls (.int v :: .int x :: .ref a :: st) σ Q := by
  intro p e R s m args below meth c H locs cells slots lsr QW hB h1 h2 hz hR hS hl hk2
  obtain ⟨hd, rfl⟩ := hd
  subst hx
  have hla : a < 1000 := Nat.lt_of_lt_of_le (q_kd_lt hk (by decide)) (Nat.le_of_lt q_NT_lt)
  have he : (q_wl G σ)[a]? = some (q_ad G a, .inl (g_cA G 2, n, .inl (q_I σ a))) := by rw [q_wl_get ha, q_ent_3 hk, q_ad_lt hla]
  have hcl : (nI i).toNatClampNeg = i := nI_clamp (by omega)
  have hset : (q_wl G σ).set a (q_ad G a, .inl (g_cA G 2, n, .inl (upd (q_I σ a) (nI i).toNatClampNeg (vp_nar .boolean v)))) = q_wl G (q_setI σ a i (vp_nar .boolean v)) := by
    rw [q_ad_lt hla]
    exact q_wl_set rfl (by rw [q_ent_3 hk, hcl, q_setI_row]) (fun a' h => q_setI_ent h)
  refine va_zast (D := g_D G) hB.1 hB.2.1 hB.2.2.2.2.2.2.2.2.1.1 hR (q_wl_D G σ) hS a 2 he rfl (vp_in_nI hi hn) hd (fun H1 locs1 hP1 _ hS1 => ?_)
  rw [hset] at hP1
  exact k p e R s m args below meth c H1 locs1 cells slots lsr QW hB h1 h2 hz hP1 hS1 hl hk2

theorem q_cast {a n i : Nat} {x : Int32} {v : Int32} (hd : q_D X pc .castore 1 nx) (hk : q_kd a = (4, n)) (ha : a < q_n σ) (hx : x = nI i) (hi : i < n) (hn : n < 2 ^ 31) (k : q_At G X d b sb nx ls st (q_setI σ a i (vp_nar .char v)) Q) : q_At G X d b sb pc ls (.int v :: .int x :: .ref a :: st) σ Q := by
  intro p e R s m args below meth c H locs cells slots lsr QW hB h1 h2 hz hR hS hl hk2
  obtain ⟨hd, rfl⟩ := hd
  subst hx
  have hla : a < 1000 := Nat.lt_of_lt_of_le (q_kd_lt hk (by decide)) (Nat.le_of_lt q_NT_lt)
  have he : (q_wl G σ)[a]? = some (q_ad G a, .inl (g_cA G 3, n, .inl (q_I σ a))) := by rw [q_wl_get ha, q_ent_4 hk, q_ad_lt hla]
  have hcl : (nI i).toNatClampNeg = i := nI_clamp (by omega)
  have hset : (q_wl G σ).set a (q_ad G a, .inl (g_cA G 3, n, .inl (upd (q_I σ a) (nI i).toNatClampNeg (vp_nar .char v)))) = q_wl G (q_setI σ a i (vp_nar .char v)) := by
    rw [q_ad_lt hla]
    exact q_wl_set rfl (by rw [q_ent_4 hk, hcl, q_setI_row]) (fun a' h => q_setI_ent h)
  refine va_cast (D := g_D G) hB.1 hB.2.1 hB.2.2.2.2.2.2.2.2.1.1 hR (q_wl_D G σ) hS a 3 he rfl (vp_in_nI hi hn) hd (fun H1 locs1 hP1 _ hS1 => ?_)
  rw [hset] at hP1
  exact k p e R s m args below meth c H1 locs1 cells slots lsr QW hB h1 h2 hz hP1 hS1 hl hk2
end QMEM
