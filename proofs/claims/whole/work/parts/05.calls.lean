
-- a method's contract
def q_Pc (G : q_G) (σ : q_S) (vs : List Value) : Array Value → State → Prop := va_Pc (vs.map (q_cv G)) (fun U => q_Rep G σ U.heap ∧ q_FX G U U.heap ∧ g_b G ≤ U.heap.size ∧ q_Z G σ U.heap.size)
def q_Qc (G : q_G) (Q : Option Value → q_S → Prop) : Array Value → State → Outcome → State → Prop := fun _ st oc t => ∃ (r : Option Value) (σ' : q_S), oc = .returned (r.map (q_cv G)) ∧ Q r σ' ∧ q_Rep G σ' t.heap ∧ va_F (q_A G) st t
def q_rm (d b sb : Nat) : Room := { frames := d, cells := b, slots := sb, locals := 64 * d }
def q_Call (G : q_G) (d b sb : Nat) (Y : q_M) (vs : List Value) (σ : q_S) (Q : Option Value → q_S → Prop) : Prop := Met (g_l G) (m_y Y) (q_ws Y) (q_rm d b sb) (q_Pc G σ vs) (q_Qc G Q) b sb (q_A G)
theorem q_Pc_blind (G : q_G) (σ : q_S) (vs : List Value) : FrameBlind (q_Pc G σ vs) := by
  intro a U g mk h
  obtain ⟨h1, h2, h3, h4, h5⟩ := h
  exact ⟨h1, h2, ⟨va_K.moved (u := U) (U := U.calling g mk a) (Vm.Alike.refl U.vm) h3.1, fun w hw => va_Nw.same (q_nest_ok w hw) (u := U) (U := U.calling g mk a) rfl (h3.2.1 w hw), h3.2.2.calling⟩, h4, h5⟩
-- locals at the entry
def q_vin : List Value → List (Option Value)
  | [] => []
  | v :: vs => if v.category = 2 then some v :: none :: q_vin vs else some v :: q_vin vs
def q_init (vs : List Value) (n : Nat) : List (Option Value) := q_vin vs ++ List.replicate (n - (q_vin vs).length) none
theorem q_vin_mem {G : q_G} : ∀ (vs : List Value) (o i : Nat) (v : Value), (q_vin vs)[i]? = some (some v) → (o + i, q_cv G v) ∈ lv_args o (vs.map (q_cv G))
  | [], _, _, _, h => by simp [q_vin] at h
  | w :: vs, o, i, v, h => by
    simp only [List.map_cons, lv_args, q_cat]
    by_cases hc : w.category = 2
    · simp only [q_vin, if_pos hc] at h
      rw [if_pos hc]
      match i, h with
      | 0, h => simp at h; subst h; exact List.mem_cons_self
      | 1, h => simp at h
      | i + 2, h =>
        simp at h
        have := q_vin_mem (G := G) vs (o + 2) i v h
        rw [show o + (i + 2) = o + 2 + i by omega]
        exact List.mem_cons_of_mem _ this
    · simp only [q_vin, if_neg hc] at h
      rw [if_neg hc]
      match i, h with
      | 0, h => simp at h; subst h; exact List.mem_cons_self
      | i + 1, h =>
        simp at h
        have := q_vin_mem (G := G) vs (o + 1) i v h
        rw [show o + (i + 1) = o + 1 + i by omega]
        exact List.mem_cons_of_mem _ this
theorem q_vin_len {G : q_G} : ∀ (vs : List Value), (lg_sl (vs.map (q_cv G))).length = (q_vin vs).length
  | [] => rfl
  | w :: vs => by
    have ih := q_vin_len (G := G) vs
    simp only [List.map_cons, lg_sl, List.flatMap_cons, q_cat, q_vin] at ih ⊢
    by_cases hc : w.category = 2
    · simp [hc]
      simp [lg_sl] at ih
      omega
    · simp [hc]
      simp [lg_sl] at ih
      omega
theorem q_init_lv {G : q_G} {lsr : Array Slot} {n : Nat} {vs : List Value} (h : lv_has lsr n (lv_args 0 (vs.map (q_cv G)))) : lv_has lsr n (q_lv G (q_init vs n)) := by
  refine ⟨h.1, h.2.1, fun q hq => h.2.2 q ?_⟩
  obtain ⟨i, w⟩ := q
  obtain ⟨v, hv, rfl⟩ := q_lv_mem.mp hq
  rw [q_init, List.getElem?_append] at hv
  split at hv
  · have := q_vin_mem (G := G) vs 0 i v hv
    rwa [Nat.zero_add] at this
  · rw [List.getElem?_replicate] at hv
    split at hv <;> simp at hv
theorem q_GT_good : ∀ w ∈ q_GT, goodWord w = true := fun w h => (List.mem_filter.mp h).2
theorem q_ws_good (Y : q_M) : ∀ w ∈ q_ws Y, (w.onTables && w.keeps) = true ∨ ∃ ty, w = .arrayClass ty := by
  intro w hw
  rcases List.mem_cons.mp hw with rfl | h
  · exact Or.inl rfl
  · exact good_of_word (q_GT_good w h)
/-- a contract by its body's walk; it doesn't throw -/
theorem q_enter {G : q_G} {d b sb : Nat} {Y : q_M} {vs : List Value} {σ : q_S} {Q : Option Value → q_S → Prop} (hp : plainName (m_y Y).cls = true) (hn : (q_vin vs).length ≤ m_m Y) (h : q_At G Y d b sb 0 (q_init vs (m_m Y)) [] σ (fun r σ' => (∀ i, r ≠ some (.retAddr i)) ∧ Q r σ')) : q_Call G d b sb Y vs σ Q := by
  refine Met.ofW (cc := m_b Y) (maxL := m_m Y) (ret := m_r Y) hp rfl ?_
  intro p e s m args below meth c s₁ B hml hv
  obtain ⟨rfl, hRep, hFX, hbs, hz⟩ := hv
  have hts := atoms_spec (ws := q_ws Y) B.pre
  have hown : s.vm.findClass (m_y Y).cls = some m.cls := findClass_of_methodNamed B.named
  have hnm : meth.name = (m_y Y).name := (name_of_methodNamed B.named B.method).1
  rw [lg_entry_eq]
  have hl := lv_entry (vs.map (q_cv G)) (n := m_m Y) (by rw [q_vin_len]; exact hn)
  generalize (lg_sl (vs.map (q_cv G)) ++ List.replicate (m_m Y - (lg_sl (vs.map (q_cv G))).length) Slot.unset).toArray = lsr at hl ⊢
  have hB : q_B G Y d p (q_rm d b sb) s m ((vs.map (q_cv G)).toArray) meth c := ⟨B.exec, B.bytes, hml, hown, fun w hw => hts w (List.mem_cons_of_mem _ hw), B.notSynchronized, B.returns, hnm, hFX, hbs, Nat.le_refl _, Nat.le_refl _⟩
  refine h p e (q_rm d b sb) s m _ below meth c s.heap [] 0 0 lsr _ hB (by simp [q_rm]) (by simp [q_rm]) (by simpa using hz) hRep va_S.rf (q_init_lv hl) ?_
  intro H' locs' cells' slots' lsr' pc' r σ' hQ hz' hR' hS' hc' hs' hls hret
  obtain ⟨hno, hQ⟩ := hQ
  refine W.widen (k := b) (n := sb) hc' hs' ?_
  have hqc : ∀ t : State, t.heap = H' → s.WarmedH t.vm → q_Qc G Q ((vs.map (q_cv G)).toArray) s (.returned (r.map (q_cv G))) t := fun t ht hW => ⟨r, σ', rfl, hQ, by rw [ht]; exact hR', hS'.F ht⟩
  match r, hret, hqc, hno with
  | none, hret, hqc, _ => exact W.vret B.exec B.bytes (B.returns.trans hret.2) hqc hS'.2.2 hret.1 B.notSynchronized
  | some (.int v), hret, hqc, _ =>
    obtain ⟨h1, ty, h2, h3⟩ := hret
    exact W.zret B.exec B.bytes (B.returns.trans h2) h3 hqc hS'.2.2 h1 B.notSynchronized
  | some (.long v), hret, hqc, _ => exact W.lret B.exec B.bytes (B.returns.trans hret.2) hqc hS'.2.2 hret.1 B.notSynchronized
  | some (.retAddr i), _, _, hno => exact absurd rfl (hno i)
/-- behind a call -/
theorem q_after {G : q_G} {p : Program} {e : Env} {R : Room} {s : State} {m : MethodId} {args : Array Value} {below : List Frame} {meth : Method} {c : Code} {H : Heap} {locs : List Loc} {cells slots mc ms pc : Nat} {lsr : Array Slot} {st0 rest : List Value} {a : Array Value} {Q' : Option Value → q_S → Prop} {QW : State → Prop}
    (hr : va_Run p (g_l G) e R s m args below meth c H locs cells slots mc ms (F0 m pc lsr st0) rest (q_Qc G Q' a) (q_A G)) (hS : va_S (q_A G) s.heap H locs)
    (kk : ∀ (r : Option Value) (σ' : q_S) (H1 : Heap) (locs1 : List Loc), Q' r σ' → q_Rep G σ' H1 → va_S (q_A G) s.heap H1 locs1 → W p (g_l G) e R s m args below meth c H1 locs1 (cells + mc) (slots + ms) QW (F0 m (pc + 3) lsr ((r.map (q_cv G)).toList ++ rest))) : W p (g_l G) e R s m args below meth c H locs cells slots QW (F0 m pc lsr st0) := by
  intro T hT X
  obtain ⟨v, st₀, t, T', L, h0, X', hL, e1, e2, ⟨r, σ', hv, hq, hrep, hz, hk⟩, st⟩ := hr T hT X
  cases hv
  rw [h0] at hz hk
  obtain ⟨t2, a1, b1⟩ := kk r σ' T'.heap (locs ++ L) hq (by rw [e1]; exact hrep)
    ⟨Nat.le_trans hS.1 (by rw [e1]; exact hz), fun q h1 h2 => by rw [e1, hk q (Nat.lt_of_lt_of_le h1 hS.1) h2]; exact hS.2.1 q h1 h2, fun q hq => by
      rcases List.mem_append.mp hq with h | h
      · exact hS.2.2 q h
      · exact hL q h⟩ T' rfl X'
  exact ⟨t2, st t2 a1, b1⟩
/-- the heap is no larger than what was made -/
theorem q_size {p : Program} {l : Launch} {e : Env} {R : Room} {s : State} {m : MethodId} {args : Array Value} {below : List Frame} {meth : Method} {c : Code} {H : Heap} {locs : List Loc} {cells slots : Nat} {Q : State → Prop} {g : JFrame} (k : H.size ≤ s.heap.size + cells → W p l e R s m args below meth c H locs cells slots Q g) : W p l e R s m args below meth c H locs cells slots Q g := fun T hT X => k (by have h := X.heapSize; rw [hT] at h; exact h) T hT X
theorem q_pre {G : q_G} {X : q_M} {d : Nat} {p : Program} {R : Room} {s : State} {m : MethodId} {args : Array Value} {meth : Method} {c : Code} {H : Heap} {locs : List Loc} {cells : Nat} {σ : q_S} (hB : q_B G X d p R s m args meth c) (hz : q_Z G σ (s.heap.size + cells)) (hR : q_Rep G σ H) (hS : va_S (q_A G) s.heap H locs) (hH : H.size ≤ s.heap.size + cells) (vs : List Value) : ∀ U : State, U.heap = H → s.WarmedH U.vm → q_Pc G σ vs ((vs.map (q_cv G)).toArray) U := by
  intro U hU hW
  refine ⟨rfl, by rw [hU]; exact hR, ?_, by rw [hU]; exact Nat.le_trans hB.2.2.2.2.2.2.2.2.2.1 hS.1, fun h => by rw [hU]; exact Nat.le_trans hH (hz h)⟩
  have hF := hB.2.2.2.2.2.2.2.2.1
  rw [hU]
  exact (hF.kept (fun a h1 h2 => hS.2.1 a h1 h2)).warm hW
-- what a call's instruction needs: its link, and its callee's words; n parameters
def q_CB (Y : q_M) (n : Nat) : Prop := Cond.code (m_y Y) (m_b Y) (m_m Y) (m_r Y) ∈ q_GT ∧ Cond.initialized (m_y Y).cls ∈ q_GT ∧ ((m_y Y).cls ≠ "java/lang/invoke/MethodHandle" ∧ (m_y Y).cls ≠ "java/lang/invoke/VarHandle") ∧ (parseMethodDescriptor (m_y Y).desc).map (fun d => d.parameters.length) = some n ∧ m_m Y ≤ 45
def q_CV (own : String) (idx : Nat) (Y : q_M) (n ci : Nat) : Prop := q_CB Y n ∧ (Cond.methodLink own idx (m_y Y) ∈ q_GT ∨ ∃ host, Cond.methodLinkNest own idx (m_y Y) host ∈ q_nest) ∧ Cond.instanceMethod (m_y Y) ∈ q_GT ∧ Cond.selects (m_y Y).cls (m_y Y) (m_y Y) ∈ q_GT ∧ ∃ (T : u_T) (N : Nat), q_cl[ci]? = some ((m_y Y).cls, T, N)
-- the same, of a link without a nest
def q_CP (own : String) (idx : Nat) (Y : q_M) (n ci : Nat) : Prop := q_CB Y n ∧ Cond.methodLink own idx (m_y Y) ∈ q_GT ∧ Cond.instanceMethod (m_y Y) ∈ q_GT ∧ Cond.selects (m_y Y).cls (m_y Y) (m_y Y) ∈ q_GT ∧ ∃ (T : u_T) (N : Nat), q_cl[ci]? = some ((m_y Y).cls, T, N)
def q_CS (own : String) (idx : Nat) (Y : q_M) (n : Nat) : Prop := q_CB Y n ∧ Cond.static (m_y Y) ∈ q_GT ∧ (Cond.methodLink own idx (m_y Y) ∈ q_GT ∨ ∃ host, Cond.methodLinkNest own idx (m_y Y) host ∈ q_nest)
def q_CI (own : String) (idx : Nat) (Y : q_M) (n : Nat) : Prop := q_CB Y n ∧ (m_y Y).name = "<init>" ∧ m_r Y = none ∧ Cond.instanceMethod (m_y Y) ∈ q_GT ∧ (Cond.methodLink own idx (m_y Y) ∈ q_GT ∨ ∃ host, Cond.methodLinkNest own idx (m_y Y) host ∈ q_nest)
theorem q_callB {G : q_G} {X Y : q_M} {d b sb n idx : Nat} {p : Program} {R : Room} {s : State} {m : MethodId} {args : Array Value} {meth : Method} {c : Code} (hB : q_B G X (d + 1) p R s m args meth c) (hC : q_CB Y n) (hl : Cond.methodLink (m_y X).cls idx (m_y Y) ∈ q_GT) : CallB R s args (m_y X).cls idx (m_y Y) (m_b Y) (m_m Y) (m_r Y) (q_ws Y) (q_rm d b sb) b sb n := by
  obtain ⟨h1, h2, h3, h4, h5⟩ := hC
  have hG : GoodIn (q_ws Y) (q_ws Y) := fun w hw => ⟨hw, q_ws_good Y w hw⟩
  have hts : ∀ w ∈ q_ws Y, w.before args s = true := fun w hw => by
    rcases List.mem_cons.mp hw with rfl | h
    · exact hB.2.2.2.2.1 _ h1
    · exact hB.2.2.2.2.1 _ h
  have hfr := hB.2.2.2.2.2.2.2.2.2.2.1
  have hlo := hB.2.2.2.2.2.2.2.2.2.2.2
  exact callB_of n hts hG rfl rfl rfl (hB.2.2.2.2.1 _ h2) (hB.2.2.2.2.1 _ hl) ⟨h3.1, h3.2, h4⟩ ⟨hfr, by show 8 + (m_m Y + 11) + 64 * d ≤ R.locals; omega⟩
theorem q_callN {G : q_G} {X Y : q_M} {d b sb n idx : Nat} {host : String} {p : Program} {R : Room} {s : State} {m : MethodId} {args : Array Value} {meth : Method} {c : Code} (hB : q_B G X (d + 1) p R s m args meth c) (hC : q_CB Y n) (hl : Cond.methodLinkNest (m_y X).cls idx (m_y Y) host ∈ q_nest) : va_CN R s args (m_y X).cls idx (m_y Y) host (m_b Y) (m_m Y) (m_r Y) (q_ws Y) (q_rm d b sb) b sb n := by
  obtain ⟨h1, h2, h3, h4, h5⟩ := hC
  have hG : GoodIn (q_ws Y) (q_ws Y) := fun w hw => ⟨hw, q_ws_good Y w hw⟩
  have hts : ∀ w ∈ q_ws Y, w.before args s = true := fun w hw => by
    rcases List.mem_cons.mp hw with rfl | h
    · exact hB.2.2.2.2.1 _ h1
    · exact hB.2.2.2.2.1 _ h
  have hfr := hB.2.2.2.2.2.2.2.2.2.2.1
  have hlo := hB.2.2.2.2.2.2.2.2.2.2.2
  exact va_cnB n hts hG rfl rfl rfl (hB.2.2.2.2.2.2.2.2.1.2.1 _ hl) (hB.2.2.2.2.1 _ h2) ⟨h3.1, h3.2, h4⟩ ⟨hfr, by show 8 + (m_m Y + 11) + 64 * d ≤ R.locals; omega⟩
def q_cats (st : List Value) : Nat := (st.map fun v => v.category).sum
theorem q_cats_cv (G : q_G) (st : List Value) : ((st.map (q_cv G)).map fun v => v.category).sum = q_cats st := by
  rw [List.map_map]
  exact congrArg List.sum (List.map_congr_left (fun v _ => q_cat G v))
theorem q_rt (G : q_G) {r : Option Value} (h : ∀ i, r ≠ some (.retAddr i)) : (r.map (q_cv G)).toList = (q_rs r).map (q_cv G) := by
  match r, h with
  | none, _ => rfl
  | some (.int v), _ => rfl
  | some (.long v), _ => rfl
  | some (.float v), _ => rfl
  | some (.double v), _ => rfl
  | some .null, _ => rfl
  | some (.ref v), _ => rfl
  | some (.retAddr i), h => exact absurd rfl (h i)
section QCALL
variable {G : q_G} {X Y : q_M} {d b sb b1 sb1 n pc nx idx ci a : Nat} {ls : List (Option Value)} {st As : List Value} {σ : q_S} {Q Q' : Option Value → q_S → Prop}
theorem q_callS (hd : q_D X pc (.invokestatic idx) 3 nx) (hC : q_CS (m_y X).cls idx Y n) (hn : As.length = n) (hst : q_cats st ≤ 8) (h : q_Call G d b1 sb1 Y As σ Q') (hq : ∀ r σ', Q' r σ' → (∀ i, r ≠ some (.retAddr i)) ∧ (q_n σ' < q_NT → q_n σ + b1 ≤ q_n σ') ∧ q_At G X (d + 1) b sb nx ls (q_rs r ++ st) σ' Q) : q_At G X (d + 1) (b1 + b) (sb1 + sb) pc ls (As.reverse ++ st) σ Q := by
  intro p e R s m args below meth c H locs cells slots lsr QW hB h1 h2 hz hR hS hl hk
  obtain ⟨hd, rfl⟩ := hd
  refine q_size (fun hH => ?_)
  have hpre : PreS s H (q_Pc G σ As) (As.map (q_cv G)) := ⟨q_Pc_blind G σ As, fun U hU hW => q_pre hB hz hR hS hH As U hU hW⟩
  have hfix : CallFix p m c (m_b X) (m_m X) s args q_GT (m_y X).cls := ⟨hB.1, hB.2.1, hB.2.2.1, hB.2.2.2.1, hB.2.2.2.2.1⟩
  have hrun : va_Run p (g_l G) e R s m args below meth c H locs cells slots b1 sb1 (F0 m pc lsr ((As.reverse ++ st).map (q_cv G))) (st.map (q_cv G)) (q_Qc G Q' ((As.map (q_cv G)).toArray)) (q_A G) := by
    obtain ⟨hCB, hstat, hlk | ⟨host, hlk⟩⟩ := hC
    · exact va_runS hfix h ⟨q_callB hB hCB hlk, hB.2.2.2.2.1 _ hstat⟩ hpre rfl (by rw [List.length_map]; exact hn) hl.1 (by simp) (lv_room (by rw [q_cats_cv]; exact hst)) hd ⟨by omega, by omega⟩
    · exact va_runSN hfix h ⟨q_callN hB hCB hlk, hB.2.2.2.2.1 _ hstat, trivial⟩ hpre rfl (by rw [List.length_map]; exact hn) hl.1 (by simp) (lv_room (by rw [q_cats_cv]; exact hst)) hd ⟨by omega, by omega⟩
  refine q_after hrun hS (fun r σ' H1 locs1 hQ hR1 hS1 => ?_)
  obtain ⟨g1, g2, g3⟩ := hq r σ' hQ
  have := g3 p e R s m args below meth c H1 locs1 (cells + b1) (slots + sb1) lsr QW hB (by omega) (by omega) (fun h => by have := hz (by have := g2 h; omega); have := g2 h; omega) hR1 hS1 hl hk
  rwa [List.map_append, ← q_rt G g1] at this
theorem q_callV (hd : q_D X pc (.invokevirtual idx) 3 nx) (hC : q_CV (m_y X).cls idx Y n ci) (hk0 : q_kd a = (0, ci)) (ha : a < q_n σ) (hn : As.length = n) (hst : q_cats st ≤ 8) (h : q_Call G d b1 sb1 Y (.ref a :: As) σ Q') (hq : ∀ r σ', Q' r σ' → (∀ i, r ≠ some (.retAddr i)) ∧ (q_n σ' < q_NT → q_n σ + b1 ≤ q_n σ') ∧ q_At G X (d + 1) b sb nx ls (q_rs r ++ st) σ' Q) : q_At G X (d + 1) (b1 + b) (sb1 + sb) pc ls (As.reverse ++ .ref a :: st) σ Q := by
  intro p e R s m args below meth c H locs cells slots lsr QW hB h1 h2 hz hR hS hl hk
  obtain ⟨hd, rfl⟩ := hd
  refine q_size (fun hH => ?_)
  obtain ⟨hCB, hlk, hinst, hsel, T, N, hc⟩ := hC
  have hla : a < 1000 := Nat.lt_of_lt_of_le (q_kd_lt hk0 (by decide)) (Nat.le_of_lt q_NT_lt)
  have he : (q_wl G σ)[a]? = some (q_ad G a, .inr (ci, q_fs G σ a ci)) := by rw [q_wl_get ha, q_ent_0 hk0, q_ad_lt hla]
  have hpre : PreV s H (m_y Y).cls (q_ad G a) (q_Pc G σ (.ref a :: As)) (As.map (q_cv G)) := ⟨q_Pc_blind G σ _, va_recv hB.2.2.2.2.2.2.2.2.1.1 hR hc he, fun U hU hW => q_pre hB hz hR hS hH (.ref a :: As) U hU hW⟩
  have hfix : CallFix p m c (m_b X) (m_m X) s args q_GT (m_y X).cls := ⟨hB.1, hB.2.1, hB.2.2.1, hB.2.2.2.1, hB.2.2.2.2.1⟩
  have hrun : va_Run p (g_l G) e R s m args below meth c H locs cells slots b1 sb1 (F0 m pc lsr ((As.reverse ++ .ref a :: st).map (q_cv G))) (st.map (q_cv G)) (q_Qc G Q' ((Value.ref (q_ad G a) :: As.map (q_cv G)).toArray)) (q_A G) := by
    rcases hlk with hlk | ⟨host, hlk⟩
    · exact va_runV hfix h ⟨q_callB hB hCB hlk, hB.2.2.2.2.1 _ hinst, hB.2.2.2.2.1 _ hsel⟩ hpre rfl (by rw [List.length_map]; exact hn) hl.1 (by simp [q_cv]) (lv_room (by rw [q_cats_cv]; exact hst)) hd ⟨by omega, by omega⟩
    · exact va_runVN hfix h ⟨q_callN hB hCB hlk, hB.2.2.2.2.1 _ hinst, hB.2.2.2.2.1 _ hsel⟩ hpre rfl (by rw [List.length_map]; exact hn) hl.1 (by simp [q_cv]) (lv_room (by rw [q_cats_cv]; exact hst)) hd ⟨by omega, by omega⟩
  refine q_after hrun hS (fun r σ' H1 locs1 hQ hR1 hS1 => ?_)
  obtain ⟨g1, g2, g3⟩ := hq r σ' hQ
  have := g3 p e R s m args below meth c H1 locs1 (cells + b1) (slots + sb1) lsr QW hB (by omega) (by omega) (fun h => by have := hz (by have := g2 h; omega); have := g2 h; omega) hR1 hS1 hl hk
  rwa [List.map_append, ← q_rt G g1] at this
theorem q_callI (hd : q_D X pc (.invokespecial idx) 3 nx) (hC : q_CI (m_y X).cls idx Y n) (hn : As.length = n) (hst : q_cats st ≤ 8) (h : q_Call G d b1 sb1 Y (.ref a :: As) σ Q') (hq : ∀ r σ', Q' r σ' → (∀ i, r ≠ some (.retAddr i)) ∧ (q_n σ' < q_NT → q_n σ + b1 ≤ q_n σ') ∧ q_At G X (d + 1) b sb nx ls (q_rs r ++ st) σ' Q) : q_At G X (d + 1) (b1 + b) (sb1 + sb) pc ls (As.reverse ++ .ref a :: st) σ Q := by
  intro p e R s m args below meth c H locs cells slots lsr QW hB h1 h2 hz hR hS hl hk
  obtain ⟨hd, rfl⟩ := hd
  refine q_size (fun hH => ?_)
  have hpre : PreS s H (q_Pc G σ (.ref a :: As)) (.ref (q_ad G a) :: As.map (q_cv G)) := ⟨q_Pc_blind G σ _, fun U hU hW => q_pre hB hz hR hS hH (.ref a :: As) U hU hW⟩
  have hfix : CallFix p m c (m_b X) (m_m X) s args q_GT (m_y X).cls := ⟨hB.1, hB.2.1, hB.2.2.1, hB.2.2.2.1, hB.2.2.2.2.1⟩
  have hrun : va_Run p (g_l G) e R s m args below meth c H locs cells slots b1 sb1 (F0 m pc lsr ((As.reverse ++ .ref a :: st).map (q_cv G))) (st.map (q_cv G)) (q_Qc G Q' ((Value.ref (q_ad G a) :: As.map (q_cv G)).toArray)) (q_A G) := by
    obtain ⟨hCB, hnm, hret, hinst, hlk | ⟨host, hlk⟩⟩ := hC
    · have hcb := q_callB (b := b1) (sb := sb1) hB hCB hlk
      rw [hret] at hcb
      exact va_runI hfix h ⟨hcb, hnm, hB.2.2.2.2.1 _ hinst⟩ hpre rfl (by rw [List.length_map]; exact hn) hl.1 (by simp [q_cv]) (lv_room (by rw [q_cats_cv]; exact hst)) hd ⟨by omega, by omega⟩
    · have hcb := q_callN (b := b1) (sb := sb1) hB hCB hlk
      rw [hret] at hcb
      exact va_runIN hfix h ⟨hcb, hnm, hB.2.2.2.2.1 _ hinst⟩ hpre rfl (by rw [List.length_map]; exact hn) hl.1 (by simp [q_cv]) (lv_room (by rw [q_cats_cv]; exact hst)) hd ⟨by omega, by omega⟩
  refine q_after hrun hS (fun r σ' H1 locs1 hQ hR1 hS1 => ?_)
  obtain ⟨g1, g2, g3⟩ := hq r σ' hQ
  have := g3 p e R s m args below meth c H1 locs1 (cells + b1) (slots + sb1) lsr QW hB (by omega) (by omega) (fun h => by have := hz (by have := g2 h; omega); have := g2 h; omega) hR1 hS1 hl hk
  rwa [List.map_append, ← q_rt G g1] at this
end QCALL
