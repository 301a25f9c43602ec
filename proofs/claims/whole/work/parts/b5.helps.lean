section HELPS
variable {G : q_G} {X Y : q_M} {d n pc idx ci a : Nat} {σ : q_S} {Q' : Option Value → q_S → Prop} {QX : q_S → Prop}
theorem q_callX {p : Program} {e : Env} {R : Room} {s : State} {m : MethodId} {args : Array Value} {below : List Frame} {meth : Method} {c : Code} {H : Heap} {locs : List Loc} {cells slots : Nat} {lsr : Array Slot} {QW : State → Prop} {As st : List Value}
    (hB : q_B G X (d + 1) p R s m args meth c) (hd : decode (m_b X) pc = .ok (.invokevirtual idx, 3)) (hC : q_CP (m_y X).cls idx Y n ci) (hk0 : q_kd a = (0, ci)) (ha : a < q_n σ) (hn : As.length = n) (hst : q_cats st ≤ 8) (h : x_Call G d Y (.ref a :: As) σ Q' QX)
    (h1 : cells + 1 ≤ R.cells) (h2 : slots + 6 ≤ R.slots) (hz : q_Z G σ (s.heap.size + cells)) (hR : q_Rep G σ H) (hS : va_S (q_A G) s.heap H locs) (hl : lsr.size = m_m X)
    (kn : ∀ r σ' H1 locs1, Q' r σ' → q_Rep G σ' H1 → va_S (q_A G) s.heap H1 locs1 → W p (g_l G) e R s m args below meth c H1 locs1 (cells + 1) (slots + 6) QW (F0 m (pc + 3) lsr ((r.map (q_cv G)).toList ++ st.map (q_cv G))))
    (kx : ∀ q ce σ' H1 locs1, QX σ' → q_Rep G σ' H1 → va_S (q_A G) s.heap H1 locs1 → H1[q]? = some ce → ce.vm = .none → s.vm.findClass x_E = some ce.cls → vx_W p (g_l G) e R s m args below meth c H1 locs1 (cells + 1) (slots + 6) QW (F0 m pc lsr (st.map (q_cv G))) q) :
    W p (g_l G) e R s m args below meth c H locs cells slots QW (F0 m pc lsr ((As.reverse ++ .ref a :: st).map (q_cv G))) := by
  refine q_size (fun hH => ?_)
  obtain ⟨hCB, hlk, hinst, hsel, T0, N, hc⟩ := hC
  have hla : a < 1000 := Nat.lt_of_lt_of_le (q_kd_lt hk0 (by decide)) (Nat.le_of_lt q_NT_lt)
  have he : (q_wl G σ)[a]? = some (q_ad G a, .inr (ci, q_fs G σ a ci)) := by rw [q_wl_get ha, q_ent_0 hk0, q_ad_lt hla]
  have hpre : PreV s H (m_y Y).cls (q_ad G a) (q_Pc G σ (.ref a :: As)) (As.map (q_cv G)) := ⟨q_Pc_blind G σ _, va_recv hB.2.2.2.2.2.2.2.2.1.1 hR hc he, fun U hU hW => q_pre hB hz hR hS hH (.ref a :: As) U hU hW⟩
  have hfix : CallFix p m c (m_b X) (m_m X) s args q_GT (m_y X).cls := ⟨hB.1, hB.2.1, hB.2.2.1, hB.2.2.2.1, hB.2.2.2.2.1⟩
  have hrun := vx_runV (e := e) (below := below) (meth := meth) (locs := locs) (cells := cells) (slots := slots) (g := F0 m pc lsr ((As.reverse ++ .ref a :: st).map (q_cv G))) (rest := st.map (q_cv G)) hfix h ⟨q_callB (b := 1) (sb := 6) hB hCB hlk, hB.2.2.2.2.1 _ hinst, hB.2.2.2.2.1 _ hsel⟩ hpre rfl (by rw [List.length_map]; exact hn) hl (by simp [F0, q_cv]) (lv_room (by rw [q_cats_cv]; exact hst)) hd ⟨h1, h2⟩
  have keep : ∀ (st₀ t T' : State) (L : List Loc), st₀.heap = H → T'.heap = t.heap → (∀ z ∈ L, q_A G z.base) → va_F (q_A G) st₀ t → va_S (q_A G) s.heap T'.heap (locs ++ L) := fun st₀ t T' L e0 e1 hL hF => by
    obtain ⟨hz, hk⟩ := hF
    rw [e0] at hz hk
    refine ⟨Nat.le_trans hS.1 (by rw [e1]; exact hz), fun q g1 g2 => by rw [e1, hk q (Nat.lt_of_lt_of_le g1 hS.1) g2]; exact hS.2.1 q g1 g2, fun q hq => ?_⟩
    rcases List.mem_append.mp hq with h | h
    · exact hS.2.2 q h
    · exact hL q h
  intro T hT Z
  rcases hrun T hT Z with ⟨v, st₀, t, T', L, e0, Z', hL, e1, e2, ⟨r, σ', hv, hq, hrep, hF⟩, st1⟩ | ⟨q, st₀, t, T', L, E, ce, e0, Z', hL, e1, e2, ⟨hE, σ', hq, hrep, hF⟩, hce, hcv, hcl, st1⟩
  · cases hv
    obtain ⟨t2, a1, b1⟩ := kn r σ' T'.heap (locs ++ L) hq (by rw [e1]; exact hrep) (keep st₀ t T' L e0 e1 hL hF) T' rfl Z'
    exact ⟨t2, st1 t2 a1, b1⟩
  · subst hE
    obtain ⟨t2, a1, b1⟩ := kx q ce σ' T'.heap (locs ++ L) hq (by rw [e1]; exact hrep) (keep st₀ t T' L e0 e1 hL hF) (by rw [e1]; exact hce) hcv hcl T' rfl Z'
    exact ⟨t2, st1.trans a1, b1⟩
-- the law's helpers
def q_wsH (X : q_M) (hh : List (Nat × Nat × Nat × Nat)) : List Cond := Cond.codeWith (m_y X) (m_b X) (m_m X) (m_r X) hh :: q_GT
def h_Call (G : q_G) (d : Nat) (Y : q_M) (hh : List (Nat × Nat × Nat × Nat)) (vs : List Value) (σ : q_S) (Q : Option Value → q_S → Prop) : Prop := Met (g_l G) (m_y Y) (q_wsH Y hh) (q_rm d 1 6) (q_Pc G σ vs) (q_Qc G Q) 1 6 (q_A G)
theorem h_enter {hh : List (Nat × Nat × Nat × Nat)} {vs : List Value} {Q : Option Value → q_S → Prop} (hp : plainName (m_y Y).cls = true) (hn : (q_vin vs).length ≤ m_m Y)
    (h : ∀ (p : Program) (e : Env) (s : State) (m : MethodId) (args : Array Value) (below : List Frame) (meth : Method) (c : Code) (lsr : Array Slot) (QW : State → Prop), q_B G Y d p (q_rm d 1 6) s m args meth c → c.exceptionTable.toList = tableOf hh → q_Z G σ s.heap.size → q_Rep G σ s.heap → lv_has lsr (m_m Y) (q_lv G (q_init vs (m_m Y))) →
      (∀ (H' : Heap) (locs' : List Loc) (cells' slots' : Nat) (lsr' : Array Slot) (pc' : Nat) (r : Option Value) (σ' : q_S), Q r σ' → (∀ i, r ≠ some (.retAddr i)) → q_Rep G σ' H' → va_S (q_A G) s.heap H' locs' → cells' ≤ 1 → slots' ≤ 6 → lsr'.size = m_m Y → q_Ret Y pc' r → W p (g_l G) e (q_rm d 1 6) s m args below meth c H' locs' cells' slots' QW (F0 m pc' lsr' ((q_rs r).map (q_cv G)))) →
      W p (g_l G) e (q_rm d 1 6) s m args below meth c s.heap [] 0 0 QW (F0 m 0 lsr [])) : h_Call G d Y hh vs σ Q := by
  refine va_MetW (cc := m_b Y) (maxL := m_m Y) (ret := m_r Y) (hh := hh) hp rfl ?_
  intro p e s m args below meth c s₁ B hml hv
  obtain ⟨rfl, hRep, hFX, hbs, hz⟩ := hv
  have hts := atoms_spec (ws := q_wsH Y hh) B.pre
  have hown : s.vm.findClass (m_y Y).cls = some m.cls := findClass_of_methodNamed B.named
  have hnm : meth.name = (m_y Y).name := (name_of_methodNamed B.named B.method).1
  rw [lg_entry_eq]
  have hl := lv_entry (vs.map (q_cv G)) (n := m_m Y) (by rw [q_vin_len]; exact hn)
  generalize (lg_sl (vs.map (q_cv G)) ++ List.replicate (m_m Y - (lg_sl (vs.map (q_cv G))).length) Slot.unset).toArray = lsr at hl ⊢
  have hB : q_B G Y d p (q_rm d 1 6) s m ((vs.map (q_cv G)).toArray) meth c := ⟨B.exec, B.bytes, hml, hown, fun w hw => hts w (List.mem_cons_of_mem _ hw), B.notSynchronized, B.returns, hnm, hFX, hbs, Nat.le_refl _, Nat.le_refl _⟩
  have htab : c.exceptionTable.toList = tableOf hh := vx_table (x := m_y Y) B (hts _ List.mem_cons_self)
  refine h p e s m _ below meth c lsr _ hB htab hz hRep (q_init_lv hl) ?_
  intro H' locs' cells' slots' lsr' pc' r σ' hQ hno hR' hS' hc' hs' hls hret
  refine W.widen (k := 1) (n := 6) hc' hs' ?_
  have hqc : ∀ t : State, t.heap = H' → s.WarmedH t.vm → q_Qc G Q ((vs.map (q_cv G)).toArray) s (.returned (r.map (q_cv G))) t := fun t ht hW => ⟨r, σ', rfl, hQ, by rw [ht]; exact hR', hS'.F ht⟩
  match r, hret, hqc, hno with
  | none, hret, hqc, _ => exact W.vret B.exec B.bytes (B.returns.trans hret.2) hqc hS'.2.2 hret.1 B.notSynchronized
  | some (.int v), hret, hqc, _ =>
    obtain ⟨h1, ty, h2, h3⟩ := hret
    exact W.zret B.exec B.bytes (B.returns.trans h2) h3 hqc hS'.2.2 h1 B.notSynchronized
  | some (.long v), hret, hqc, _ => exact W.lret B.exec B.bytes (B.returns.trans hret.2) hqc hS'.2.2 hret.1 B.notSynchronized
  | some (.retAddr i), _, _, hno => exact absurd rfl (hno i)
end HELPS
