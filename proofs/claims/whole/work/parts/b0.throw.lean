
-- a walk that makes nothing, below more room: at its end no more has been made
theorem q_lift {G : q_G} {X : q_M} {d pc : Nat} {ls : List (Option Value)} {st : List Value} {σ : q_S} {Q : Option Value → q_S → Prop} (h : q_At G X d 0 0 pc ls st σ Q)
    {p : Program} {e : Env} {R : Room} {s : State} {m : MethodId} {args : Array Value} {below : List Frame} {meth : Method} {c : Code} {H : Heap} {locs : List Loc} {cells slots : Nat} {lsr : Array Slot} {QW : State → Prop}
    (hB : q_B G X d p R s m args meth c) (h1 : cells ≤ R.cells) (h2 : slots ≤ R.slots) (hz : q_Z G σ (s.heap.size + cells)) (hR : q_Rep G σ H) (hS : va_S (q_A G) s.heap H locs) (hl : lv_has lsr (m_m X) (q_lv G ls))
    (hk : ∀ (H' : Heap) (locs' : List Loc) (cells' slots' : Nat) (lsr' : Array Slot) (pc' : Nat) (r : Option Value) (σ' : q_S), Q r σ' → q_Z G σ' (s.heap.size + cells') → q_Rep G σ' H' → va_S (q_A G) s.heap H' locs' → cells' ≤ cells → slots' ≤ slots → lsr'.size = m_m X → q_Ret X pc' r →
      W p (g_l G) e R s m args below meth c H' locs' cells' slots' QW (F0 m pc' lsr' ((q_rs r).map (q_cv G)))) :
    W p (g_l G) e R s m args below meth c H locs cells slots QW (F0 m pc lsr (st.map (q_cv G))) := by
  intro T hT Y
  have hro : s.hasRoom e.platform R = true := Y.room
  have hro1 : s.hasRoom e.platform { R with cells := cells, slots := slots } = true := by
    simp only [State.hasRoom, Bool.and_eq_true, decide_eq_true_eq] at hro ⊢
    obtain ⟨⟨⟨⟨a1, a2⟩, a3⟩, a4⟩, a5⟩ := hro
    exact ⟨⟨⟨⟨a1, a2⟩, by omega⟩, by omega⟩, a5⟩
  have hB1 : q_B G X d p { R with cells := cells, slots := slots } s m args meth c := hB
  refine h p e { R with cells := cells, slots := slots } s m args below meth c H locs cells slots lsr QW hB1 (Nat.le_refl _) (Nat.le_refl _) hz hR hS hl ?_ T hT ⟨Y.admits, Y.cas, Y.clock, Y.frames, hro1, Y.hears, Y.method, Y.code, Y.here, Y.tail, Y.warmed, Y.limits, Y.bytes, Y.same⟩
  intro H' locs' cells' slots' lsr' pc' r σ' q1 q2 q3 q4 q5 q6 q7 q8 T' hT' Z
  exact hk H' locs' cells' slots' lsr' pc' r σ' q1 q2 q3 q4 q5 q6 q7 q8 T' hT' ⟨Z.admits, Z.cas, Z.clock, Z.frames, hro, Z.hears, Z.method, Z.code, Z.here, Z.tail, Z.warmed, Z.limits, Z.bytes, Z.same⟩

def x_E : String := "java/util/NoSuchElementException"
def x_N : List String := ["java/lang/RuntimeException", "java/lang/Exception"]
theorem x_w1 : (vx_at0 "WallLottery" 161 x_E x_N).all (fun w => decide (w ∈ q_GT) || decide (w ∈ q_nest)) = true := by decide +kernel
theorem x_w2 : (Cond.classLink "WallLottery" 159 x_E :: Cond.initialized x_E :: vx_at0 "WallLottery" 161 x_E x_N).all vx_ot = true := by decide +kernel
theorem x_w3 : [Cond.classLink "WallLottery" 159 x_E, Cond.initialized x_E].all (fun w => decide (w ∈ q_GT)) = true := by decide +kernel
theorem x_words {G : q_G} {X : q_M} {d : Nat} {p : Program} {R : Room} {s : State} {m : MethodId} {args : Array Value} {meth : Method} {c : Code} (hB : q_B G X d p R s m args meth c) : ∀ w ∈ Cond.classLink "WallLottery" 159 x_E :: Cond.initialized x_E :: vx_at0 "WallLottery" 161 x_E x_N, w.before args s = true := by
  intro w hw
  have hot : vx_ot w = true := List.all_eq_true.mp x_w2 w hw
  have key : w ∈ q_GT ∨ w ∈ q_nest := by
    rcases List.mem_cons.mp hw with rfl | hw
    · exact Or.inl (of_decide_eq_true (List.all_eq_true.mp x_w3 _ List.mem_cons_self))
    rcases List.mem_cons.mp hw with rfl | hw
    · exact Or.inl (of_decide_eq_true (List.all_eq_true.mp x_w3 _ (List.mem_cons_of_mem _ List.mem_cons_self)))
    have := List.all_eq_true.mp x_w1 w hw
    simp only [Bool.or_eq_true, decide_eq_true_eq] at this
    exact this
  rcases key with h | h
  · exact hB.2.2.2.2.1 w h
  · have h1 : va_Nw w s := hB.2.2.2.2.2.2.2.2.1.2.1 w h
    have h2 : w.before #[] s = true := h1
    exact vx_ot_at (State.WarmedH.refl s) rfl hot h2
theorem dec_u1 {code : ByteArray} {pc : Nat} (hn : ¬ pc < code.size) : Reader.runAt (Reader.u1 : Decoder Nat) code pc = .error (HasTruncated.truncated pc) := by
  unfold Reader.u1 Reader.runAt
  show (dite (pc < code.size) _ _ : Decoder Nat) code pc = _
  rw [dif_neg hn]
  rfl
theorem dec_bd {α β : Type} (r : Decoder α) (f : α → Decoder β) (code : ByteArray) (pc : Nat) {e : DecodeError} (h : Reader.runAt r code pc = .error e) : Reader.runAt (r >>= f) code pc = .error e := by
  show Except.bind (Reader.runAt r code pc) (fun x => Reader.runAt (f x.1) code x.2) = _
  rw [h]
  rfl
theorem dec_lt {code : ByteArray} {pc : Nat} {x : Instr × Nat} (h : decode code pc = .ok x) : pc < code.size := by
  apply Classical.byContradiction
  intro hn
  have : Reader.runAt (Decoder.instr pc) code pc = .error (HasTruncated.truncated pc) := dec_bd _ _ _ _ (dec_u1 hn)
  unfold decode at h
  rw [this] at h
  cases h
-- the throw's own instructions
def x_th (Y : q_M) : Prop := ∀ pc, decode (m_b Y) pc = .ok (.new 159, 3) → decode (m_b Y) (pc + 3) = .ok (.dup, 1) ∧ decode (m_b Y) (pc + 4) = .ok (.invokespecial 161, 3) ∧ decode (m_b Y) (pc + 7) = .ok (.athrow, 1)
theorem x_thB {Y : q_M} (h : ∀ pc, pc < (m_b Y).size → decode (m_b Y) pc = .ok (.new 159, 3) → decode (m_b Y) (pc + 3) = .ok (.dup, 1) ∧ decode (m_b Y) (pc + 4) = .ok (.invokespecial 161, 3) ∧ decode (m_b Y) (pc + 7) = .ok (.athrow, 1)) : x_th Y := fun pc hp => h pc (dec_lt hp) hp
theorem x_joy : x_th X_W_joy := x_thB (by decide +kernel)
theorem x_hope : x_th X_W_hope := x_thB (by decide +kernel)
theorem x_rests : x_th X_W_rests := x_thB (by decide +kernel)
theorem x_gains : x_th X_W_gains := x_thB (by decide +kernel)
theorem q_at_lt {D : va_G} {cl : List vw_C} {q : Nat × va_E} {H : Heap} (h : va_at D cl q H) : q.1 < H.size := by
  obtain ⟨a, e⟩ := q
  cases e with
  | inl x =>
    have h1 : H[a]? = some (vp_cell x.1 x.2) := h
    exact (Array.getElem?_eq_some_iff.mp h1).1
  | inr o =>
    obtain ⟨r, _, cell, h2, _⟩ := h
    exact (Array.getElem?_eq_some_iff.mp h2).1
-- a method's contract that may throw
def x_XC (G : q_G) (QX : q_S → Prop) : String → State → State → Prop := fun E st t => E = x_E ∧ ∃ σ', QX σ' ∧ q_Rep G σ' t.heap ∧ va_F (q_A G) st t
def x_Call (G : q_G) (d : Nat) (Y : q_M) (vs : List Value) (σ : q_S) (Q : Option Value → q_S → Prop) (QX : q_S → Prop) : Prop := vx_Met (g_l G) (m_y Y) (q_ws Y) (q_rm d 1 6) (q_Pc G σ vs) (q_Qc G Q) (x_XC G QX) 1 6 (q_A G)
theorem x_enter {G : q_G} {d : Nat} {Y : q_M} {vs : List Value} {σ : q_S} {Q : Option Value → q_S → Prop} {QX : q_S → Prop} (hst : (g_l G).stackTraces = false) (hd : 6 ≤ d) (hY : (m_y Y).cls = "WallLottery") (hth : x_th Y) (hn : (q_vin vs).length ≤ m_m Y)
    (h : q_At G Y d 0 0 0 (q_init vs (m_m Y)) [] σ (fun r σ' => (r = some (.retAddr 159) ∧ QX σ') ∨ ((∀ i, r ≠ some (.retAddr i)) ∧ Q r σ'))) : x_Call G d Y vs σ Q QX := by
  refine vx_ofW (cc := m_b Y) (maxL := m_m Y) (ret := m_r Y) (by rw [hY]; decide +kernel) rfl ?_
  intro p e s m args below meth c s₁ B hml htab hv
  obtain ⟨rfl, hRep, hFX, hbs, hz⟩ := hv
  have hts := atoms_spec (ws := q_ws Y) B.pre
  have hown : s.vm.findClass (m_y Y).cls = some m.cls := findClass_of_methodNamed B.named
  have hnm : meth.name = (m_y Y).name := (name_of_methodNamed B.named B.method).1
  rw [lg_entry_eq]
  have hl := lv_entry (vs.map (q_cv G)) (n := m_m Y) (by rw [q_vin_len]; exact hn)
  generalize (lg_sl (vs.map (q_cv G)) ++ List.replicate (m_m Y - (lg_sl (vs.map (q_cv G))).length) Slot.unset).toArray = lsr at hl ⊢
  have hB : q_B G Y d p (q_rm d 1 6) s m ((vs.map (q_cv G)).toArray) meth c := ⟨B.exec, B.bytes, hml, hown, fun w hw => hts w (List.mem_cons_of_mem _ hw), B.notSynchronized, B.returns, hnm, hFX, hbs, Nat.le_refl _, Nat.le_refl _⟩
  refine q_lift h hB (Nat.zero_le _) (Nat.zero_le _) (by simpa using hz) hRep va_S.rf (q_init_lv hl) ?_
  intro H' locs' cells' slots' lsr' pc' r σ' hQ hz' hR' hS' hc' hs' hls hret
  rcases hQ with ⟨rfl, hQ⟩ | ⟨hno, hQ⟩
  · have hret' : decode (m_b Y) pc' = .ok (.new 159, 3) := hret
    obtain ⟨t3, t4, t7⟩ := hth pc' hret'
    have hw := x_words hB
    refine vx_throw0 B.exec B.bytes hst (own := "WallLottery") (cls := x_E) (names := x_N) (ik := 159) (ic := 161) (mc := 1) (ms := 6) (A := q_A G) (by rw [← hY]; exact hown) (by decide +kernel) (by decide +kernel) (hw _ List.mem_cons_self) (hw _ (List.mem_cons_of_mem _ List.mem_cons_self)) (fun w h => hw w (List.mem_cons_of_mem _ (List.mem_cons_of_mem _ h))) (fun w h => List.all_eq_true.mp x_w2 w h) hFX.2.2.2.2.2.2.2.2.2.1.1 hFX.2.2.2.2.2.2.2.2.2.1.2 hS' (by rw [hls, hml]) hret' t3 t4 t7 (fun x hx => absurd hx (htab x)) ?_ ?_ ?_ ?_ B.notSynchronized ?_ hS'.2.2 ?_ ?_
    · show 2 + 3 < d; omega
    · show 0 + (13 * (2 + 1) + 42) ≤ 64 * d; omega
    · show cells' + 1 ≤ 1; omega
    · show slots' + 6 ≤ 6; omega
    · intro t _ g1 g2
      refine ⟨rfl, σ', hQ, ?_, ?_⟩
      · refine va_P.kept hR' (fun k q hk => ?_)
        apply g2
        have := hR' k q hk
        exact q_at_lt this
      · exact ⟨Nat.le_trans hS'.1 g1, fun q h1 h2 => by rw [g2 q (Nat.lt_of_lt_of_le h1 hS'.1)]; exact hS'.2.1 q h1 h2⟩
    · omega
    · omega
  · refine vx_ret ?_
    refine W.widen (k := 1) (n := 6) (by omega) (by omega) ?_
    have hqc : ∀ t : State, t.heap = H' → s.WarmedH t.vm → q_Qc G Q ((vs.map (q_cv G)).toArray) s (.returned (r.map (q_cv G))) t := fun t ht hW => ⟨r, σ', rfl, hQ, by rw [ht]; exact hR', hS'.F ht⟩
    match r, hret, hqc, hno with
    | none, hret, hqc, _ => exact W.vret B.exec B.bytes (B.returns.trans hret.2) hqc hS'.2.2 hret.1 B.notSynchronized
    | some (.int v), hret, hqc, _ =>
      obtain ⟨h1, ty, h2, h3⟩ := hret
      exact W.zret B.exec B.bytes (B.returns.trans h2) h3 hqc hS'.2.2 h1 B.notSynchronized
    | some (.long v), hret, hqc, _ => exact W.lret B.exec B.bytes (B.returns.trans hret.2) hqc hS'.2.2 hret.1 B.notSynchronized
    | some (.retAddr i), _, _, hno => exact absurd rfl (hno i)
