theorem q_nfw : nativeFrameWords "java/lang/System" "arraycopy" 5 ≤ 40 := by decide
theorem q_wmax1 : Cond.static Lib.Math.max.name ∈ q_GT := q_in (i := 627) (by decide +kernel) (by decide +kernel)
theorem q_wmax2 : Cond.code Lib.Math.max.name Lib.Math.max.code 2 (some .int) ∈ q_GT := q_in (i := 628) (by decide +kernel) (by decide +kernel)
theorem q_wmin1 : Cond.static Lib.Math.min.name ∈ q_GT := q_in (i := 630) (by decide +kernel) (by decide +kernel)
theorem q_wmin2 : Cond.code Lib.Math.min.name Lib.Math.min.code 2 (some .int) ∈ q_GT := q_in (i := 631) (by decide +kernel) (by decide +kernel)
theorem q_wmath : Cond.initialized "java/lang/Math" ∈ q_GT := q_in (i := 134) (by decide +kernel) (by decide +kernel)
theorem q_wobj1 : Cond.instanceMethod Lib.objectInit ∈ q_GT := q_in (i := 151) (by decide +kernel) (by decide +kernel)
theorem q_wobj2 : Cond.code Lib.objectInit ⟨#[0xb1]⟩ 1 none ∈ q_GT := q_in (i := 152) (by decide +kernel) (by decide +kernel)
theorem q_wcp1 : Cond.native arraycopyName ∈ q_GT := q_in (i := 883) (by decide +kernel) (by decide +kernel)
theorem q_wcp2 : Cond.static arraycopyName ∈ q_GT := q_in (i := 882) (by decide +kernel) (by decide +kernel)
theorem q_wcp3 : Cond.initialized "java/lang/System" ∈ q_GT := q_in (i := 139) (by decide +kernel) (by decide +kernel)

theorem q_ad_ge {G : q_G} {k : Nat} (h : ¬ k < 1000) : q_ad G k = g_sa G k := by simp [q_ad, h]
section QOLD
variable {G : q_G} {X Y : q_M} {d b sb b1 sb1 n pc nx idx ci a : Nat} {ls : List (Option Value)} {st As : List Value} {σ : q_S} {Q Q' : Option Value → q_S → Prop}
theorem q_i2b {x : Int32} (hd : q_D X pc .i2b 1 nx) (k : q_At G X d b sb nx ls (.int x.toInt8.toInt32 :: st) σ Q) : q_At G X d b sb pc ls (.int x :: st) σ Q := by
  intro p e R s m args below meth c H locs cells slots lsr QW hB h1 h2 hz hR hS hl hk
  obtain ⟨hd, rfl⟩ := hd
  exact lv_i2b hB.1 hB.2.1 hd rfl (k p e R s m args below meth c H locs cells slots lsr QW hB h1 h2 hz hR hS hl hk)
theorem q_iushr {x y : Int32} (hd : q_D X pc .iushr 1 nx) (k : q_At G X d b sb nx ls (.int (x.toUInt32 >>> (y.toUInt32 &&& Int32.toUInt32 31)).toInt32 :: st) σ Q) : q_At G X d b sb pc ls (.int y :: .int x :: st) σ Q := by
  intro p e R s m args below meth c H locs cells slots lsr QW hB h1 h2 hz hR hS hl hk
  obtain ⟨hd, rfl⟩ := hd
  exact lv_iushr hB.1 hB.2.1 hd rfl (k p e R s m args below meth c H locs cells slots lsr QW hB h1 h2 hz hR hS hl hk)
theorem q_gets {C fn fd : String} {w : Value} (hd : q_D X pc (.getstatic idx) 3 nx) (hlk : Cond.fieldLink (m_y X).cls idx C fn fd ∈ q_GT ∨ ∃ host, Cond.fieldLinkNest (m_y X).cls idx C fn fd host ∈ q_nest) (hf : ∀ U H, q_SX G U H → va_Z C fn fd (q_cv G w) (q_A G) U H) (k : q_At G X d b sb nx ls (w :: st) σ Q) : q_At G X d b sb pc ls st σ Q := by
  intro p e R s m args below meth c H locs cells slots lsr QW hB h1 h2 hz hR hS hl hk
  obtain ⟨hd, rfl⟩ := hd
  have hZ := hf s s.heap hB.2.2.2.2.2.2.2.2.1.2.2
  rcases hlk with hlk | ⟨host, hlk⟩
  · exact va_gets hB.1 hB.2.1 hZ hS hB.2.2.2.1 (hB.2.2.2.2.1 _ hlk) (fun _ h9 => h9) hd (k p e R s m args below meth c H locs cells slots lsr QW hB h1 h2 hz hR hS hl hk)
  · exact va_getsN hB.1 hB.2.1 hZ hS hB.2.2.2.1 (va_Nw.use rfl (hB.2.2.2.2.2.2.2.2.1.2.1 _ hlk)) (fun _ h9 => h9) hd (k p e R s m args below meth c H locs cells slots lsr QW hB h1 h2 hz hR hS hl hk)
theorem q_getS {C fn fd : String} {w : Value} (hd : q_D X pc (.getfield idx) 3 nx) (hlk : Cond.fieldLink (m_y X).cls idx C fn fd ∈ q_GT) (hf : ∀ U H, q_SX G U H → va_OF C fn fd (q_cv G w) (q_ad G a) (q_A G) U H) (k : q_At G X d b sb nx ls (w :: st) σ Q) : q_At G X d b sb pc ls (.ref a :: st) σ Q := by
  intro p e R s m args below meth c H locs cells slots lsr QW hB h1 h2 hz hR hS hl hk
  obtain ⟨hd, rfl⟩ := hd
  exact vk_getf hB.1 hB.2.1 (hf s s.heap hB.2.2.2.2.2.2.2.2.1.2.2) hS hB.2.2.2.1 (hB.2.2.2.2.1 _ hlk) (fun _ h9 => h9) hd (k p e R s m args below meth c H locs cells slots lsr QW hB h1 h2 hz hR hS hl hk)
theorem q_ti {N i : Nat} {f : Nat → Value} {w : Value} {x : Int32} (hd : q_D X pc .iaload 1 nx) (hf : ∀ U H, q_SX G U H → va_T .int (q_ad G a) N f (q_A G) U H) (hx : x = nI i) (hi : i < N) (hN : N < 2 ^ 31) (hw : f i = q_cv G w) (k : q_At G X d b sb nx ls (w :: st) σ Q) : q_At G X d b sb pc ls (.int x :: .ref a :: st) σ Q := by
  intro p e R s m args below meth c H locs cells slots lsr QW hB h1 h2 hz hR hS hl hk
  obtain ⟨hd, rfl⟩ := hd
  subst hx
  exact va_ti hB.1 hB.2.1 (hf s s.heap hB.2.2.2.2.2.2.2.2.1.2.2) hS (vp_in_nI hi hN) (by rw [nI_clamp (by omega)]; exact hw) hd (k p e R s m args below meth c H locs cells slots lsr QW hB h1 h2 hz hR hS hl hk)
theorem q_tb {N i : Nat} {f : Nat → Value} {w : Value} {x : Int32} (hd : q_D X pc .baload 1 nx) (hf : ∀ U H, q_SX G U H → va_T .byte (q_ad G a) N f (q_A G) U H) (hx : x = nI i) (hi : i < N) (hN : N < 2 ^ 31) (hw : f i = q_cv G w) (k : q_At G X d b sb nx ls (w :: st) σ Q) : q_At G X d b sb pc ls (.int x :: .ref a :: st) σ Q := by
  intro p e R s m args below meth c H locs cells slots lsr QW hB h1 h2 hz hR hS hl hk
  obtain ⟨hd, rfl⟩ := hd
  subst hx
  exact va_tb hB.1 hB.2.1 (hf s s.heap hB.2.2.2.2.2.2.2.2.1.2.2) hS (vp_in_nI hi hN) (by rw [nI_clamp (by omega)]; exact hw) hd (k p e R s m args below meth c H locs cells slots lsr QW hB h1 h2 hz hR hS hl hk)
theorem q_tq {C : String} {N i : Nat} {f : Nat → Value} {w : Value} {x : Int32} (hd : q_D X pc .aaload 1 nx) (hf : ∀ U H, q_SX G U H → va_T (.object C) (q_ad G a) N f (q_A G) U H) (hx : x = nI i) (hi : i < N) (hN : N < 2 ^ 31) (hw : f i = q_cv G w) (k : q_At G X d b sb nx ls (w :: st) σ Q) : q_At G X d b sb pc ls (.int x :: .ref a :: st) σ Q := by
  intro p e R s m args below meth c H locs cells slots lsr QW hB h1 h2 hz hR hS hl hk
  obtain ⟨hd, rfl⟩ := hd
  subst hx
  exact vb_tq hB.1 hB.2.1 (hf s s.heap hB.2.2.2.2.2.2.2.2.1.2.2) hS (vp_in_nI hi hN) (by rw [nI_clamp (by omega)]; exact hw) hd (k p e R s m args below meth c H locs cells slots lsr QW hB h1 h2 hz hR hS hl hk)
theorem q_tlen {ty : FieldType} {N : Nat} {f : Nat → Value} (hd : q_D X pc .arraylength 1 nx) (hf : ∀ U H, q_SX G U H → va_T ty (q_ad G a) N f (q_A G) U H) (k : q_At G X d b sb nx ls (.int (nI N) :: st) σ Q) : q_At G X d b sb pc ls (.ref a :: st) σ Q := by
  intro p e R s m args below meth c H locs cells slots lsr QW hB h1 h2 hz hR hS hl hk
  obtain ⟨hd, rfl⟩ := hd
  exact va_tlen hB.1 hB.2.1 (hf s s.heap hB.2.2.2.2.2.2.2.2.1.2.2) hS rfl hd (k p e R s m args below meth c H locs cells slots lsr QW hB h1 h2 hz hR hS hl hk)
theorem q_sld {i : Nat} {x : Int32} (hd : q_D X pc .iaload 1 nx) (hx : x = nI i) (hi : i < g_L G) (hN : g_L G < 2 ^ 31) (k : q_At G X d b sb nx ls (.int (g_xs G i) :: st) σ Q) : q_At G X d b sb pc ls (.int x :: .ref 1000 :: st) σ Q := by
  intro p e R s m args below meth c H locs cells slots lsr QW hB h1 h2 hz hR hS hl hk
  obtain ⟨hd, rfl⟩ := hd
  subst hx
  obtain ⟨hX, hA⟩ := hB.2.2.2.2.2.2.2.2.1.2.2.2.2.2.2.2.1
  have hlt : g_sa G 1000 < s.heap.size := by obtain ⟨scr, g1, -⟩ := hX; exact (Array.getElem?_eq_some_iff.mp g1).1
  refine va_sld hB.1 hB.2.1 hX hlt hA hS (vp_in_nI hi hN) hd ?_
  rw [nI_clamp (by omega)]
  exact k p e R s m args below meth c H locs cells slots lsr QW hB h1 h2 hz hR hS hl hk
theorem q_slen (hd : q_D X pc .arraylength 1 nx) (k : q_At G X d b sb nx ls (.int (nI (g_L G)) :: st) σ Q) : q_At G X d b sb pc ls (.ref 1000 :: st) σ Q := by
  intro p e R s m args below meth c H locs cells slots lsr QW hB h1 h2 hz hR hS hl hk
  obtain ⟨hd, rfl⟩ := hd
  obtain ⟨hX, hA⟩ := hB.2.2.2.2.2.2.2.2.1.2.2.2.2.2.2.2.1
  have hlt : g_sa G 1000 < s.heap.size := by obtain ⟨scr, g1, -⟩ := hX; exact (Array.getElem?_eq_some_iff.mp g1).1
  exact va_slen hB.1 hB.2.1 hX hlt hA hS hd (k p e R s m args below meth c H locs cells slots lsr QW hB h1 h2 hz hR hS hl hk)
theorem q_ldcS (hd : q_D X pc (.ldc 77) 2 nx) (hX : (m_y X).cls = "WallLottery$Tokens") (k : q_At G X d b sb nx ls (.ref 1043 :: st) σ Q) : q_At G X d b sb pc ls st σ Q := by
  intro p e R s m args below meth c H locs cells slots lsr QW hB h1 h2 hz hR hS hl hk
  obtain ⟨hd, rfl⟩ := hd
  exact va_ldcS hB.1 hB.2.1 (by rw [← hX]; exact hB.2.2.2.1) hB.2.2.2.2.2.2.2.2.1.2.2.2.2.2.2.2.2.1.1 hd (k p e R s m args below meth c H locs cells slots lsr QW hB h1 h2 hz hR hS hl hk)
theorem q_acmp_ne {i j : Nat} {off : Int} {tgt : Nat} (hd : q_J X pc (.if_acmp .ne off) nx off tgt) (hi : i < 34) (hj : j < 34) (kt : ¬ i = j → q_At G X d b sb tgt ls st σ Q) (kf : i = j → q_At G X d b sb nx ls st σ Q) : q_At G X d b sb pc ls (.ref (1001 + j) :: .ref (1001 + i) :: st) σ Q := by
  intro p e R s m args below meth c H locs cells slots lsr QW hB h1 h2 hz hR hS hl hk
  obtain ⟨hd, rfl, ht⟩ := hd
  have hinj := hB.2.2.2.2.2.2.2.2.1.2.2.2.1
  have ei : q_ad G (1001 + i) = g_sa G (1001 + i) := q_ad_ge (by omega)
  have ej : q_ad G (1001 + j) = g_sa G (1001 + j) := q_ad_ge (by omega)
  refine lv_acmp_ne (rx := some (q_ad G (1001 + i))) (ry := some (q_ad G (1001 + j))) hB.1 hB.2.1 hd ht (fun q => ?_) (fun q => ?_)
  · exact kt (fun e9 => q (by rw [e9])) p e R s m args below meth c H locs cells slots lsr QW hB h1 h2 hz hR hS hl hk
  · exact kf (hinj i j hi hj (by rw [← ei, ← ej]; exact Option.some.inj q)) p e R s m args below meth c H locs cells slots lsr QW hB h1 h2 hz hR hS hl hk
-- calls on old objects
def q_CW (own : String) (idx : Nat) (Y : q_M) (n : Nat) : Prop := q_CB Y n ∧ Cond.methodLink own idx (m_y Y) ∈ q_GT ∧ Cond.instanceMethod (m_y Y) ∈ q_GT ∧ Cond.selects (m_y Y).cls (m_y Y) (m_y Y) ∈ q_GT
theorem q_callW (hd : q_D X pc (.invokevirtual idx) 3 nx) (hC : q_CW (m_y X).cls idx Y n) (hf : ∀ U H, q_SX G U H → va_O (m_y Y).cls (q_ad G a) (q_A G) U H) (hn : As.length = n) (hst : q_cats st ≤ 8) (h : q_Call G d b1 sb1 Y (.ref a :: As) σ Q') (hq : ∀ r σ', Q' r σ' → (∀ i, r ≠ some (.retAddr i)) ∧ (q_n σ' < q_NT → q_n σ + b1 ≤ q_n σ') ∧ q_At G X (d + 1) b sb nx ls (q_rs r ++ st) σ' Q) : q_At G X (d + 1) (b1 + b) (sb1 + sb) pc ls (As.reverse ++ .ref a :: st) σ Q := by
  intro p e R s m args below meth c H locs cells slots lsr QW hB h1 h2 hz hR hS hl hk
  obtain ⟨hd, rfl⟩ := hd
  refine q_size (fun hH => ?_)
  obtain ⟨hCB, hlk, hinst, hsel⟩ := hC
  obtain ⟨cell, g1, g2, g3, g4⟩ := (hf s s.heap hB.2.2.2.2.2.2.2.2.1.2.2).kept hS.2.1
  have hpre : PreV s H (m_y Y).cls (q_ad G a) (q_Pc G σ (.ref a :: As)) (As.map (q_cv G)) := ⟨q_Pc_blind G σ _, ⟨cell, g1, g2, g3⟩, fun U hU hW => q_pre hB hz hR hS hH (.ref a :: As) U hU hW⟩
  have hfix : CallFix p m c (m_b X) (m_m X) s args q_GT (m_y X).cls := ⟨hB.1, hB.2.1, hB.2.2.1, hB.2.2.2.1, hB.2.2.2.2.1⟩
  have hrun : va_Run p (g_l G) e R s m args below meth c H locs cells slots b1 sb1 (F0 m pc lsr ((As.reverse ++ .ref a :: st).map (q_cv G))) (st.map (q_cv G)) (q_Qc G Q' ((Value.ref (q_ad G a) :: As.map (q_cv G)).toArray)) (q_A G) :=
    va_runV hfix h ⟨q_callB hB hCB hlk, hB.2.2.2.2.1 _ hinst, hB.2.2.2.2.1 _ hsel⟩ hpre rfl (by rw [List.length_map]; exact hn) hl.1 (by simp [q_cv]) (lv_room (by rw [q_cats_cv]; exact hst)) hd ⟨by omega, by omega⟩
  refine q_after hrun hS (fun r σ' H1 locs1 hQ hR1 hS1 => ?_)
  obtain ⟨g1, g2, g3⟩ := hq r σ' hQ
  have := g3 p e R s m args below meth c H1 locs1 (cells + b1) (slots + sb1) lsr QW hB (by omega) (by omega) (fun h => by have := hz (by have := g2 h; omega); have := g2 h; omega) hR1 hS1 hl hk
  rwa [List.map_append, ← q_rt G g1] at this
-- a method that the object's class inherits, no parameters
def q_CU (own : String) (idx : Nat) (x : MethodName) (Y : q_M) (C : String) : Prop := q_CB Y 0 ∧ Cond.methodLink own idx x ∈ q_GT ∧ Cond.sameMethod x.cls (m_y Y).cls x.name x.desc ∈ q_GT ∧ Cond.selects C x (m_y Y) ∈ q_GT ∧ Cond.instanceMethod (m_y Y) ∈ q_GT ∧ m_y Y = ⟨(m_y Y).cls, x.name, x.desc⟩ ∧ (parseMethodDescriptor x.desc).map (fun d => d.parameters.length) = some 0
theorem q_callU {x : MethodName} {C : String} (hd : q_D X pc (.invokevirtual idx) 3 nx) (hC : q_CU (m_y X).cls idx x Y C) (hf : ∀ U H, q_SX G U H → va_O C (q_ad G a) (q_A G) U H) (hst : q_cats st ≤ 8) (h : q_Call G d b1 sb1 Y [.ref a] σ Q') (hq : ∀ r σ', Q' r σ' → (∀ i, r ≠ some (.retAddr i)) ∧ (q_n σ' < q_NT → q_n σ + b1 ≤ q_n σ') ∧ q_At G X (d + 1) b sb nx ls (q_rs r ++ st) σ' Q) : q_At G X (d + 1) (b1 + b) (sb1 + sb) pc ls (.ref a :: st) σ Q := by
  intro p e R s m args below meth c H locs cells slots lsr QW hB h1 h2 hz hR hS hl hk
  obtain ⟨hd, rfl⟩ := hd
  refine q_size (fun hH => ?_)
  obtain ⟨hCB, hlk, hsame, hsel, hinst, hy, hdesc⟩ := hC
  obtain ⟨cell, g1, g2, g3, g4⟩ := (hf s s.heap hB.2.2.2.2.2.2.2.2.1.2.2).kept hS.2.1
  have hpre : PreV s H C (q_ad G a) (q_Pc G σ [.ref a]) [] := ⟨q_Pc_blind G σ _, ⟨cell, g1, g2, g3⟩, fun U hU hW => q_pre hB hz hR hS hH [.ref a] U hU hW⟩
  have hfix : CallFix p m c (m_b X) (m_m X) s args q_GT (m_y X).cls := ⟨hB.1, hB.2.1, hB.2.2.1, hB.2.2.2.1, hB.2.2.2.2.1⟩
  obtain ⟨k1, k2, k3, k4, k5⟩ := hCB
  have hfr := hB.2.2.2.2.2.2.2.2.2.2.1
  have hlo := hB.2.2.2.2.2.2.2.2.2.2.2
  have hT : GoodIn q_GT (va_wsU (m_y X).cls idx C (m_y Y).cls x (m_y Y) (q_ws Y)) := by
    intro w hw
    have hm : w ∈ q_GT := by
      simp only [va_wsU, List.mem_append, List.mem_cons, List.not_mem_nil, or_false, q_ws] at hw
      rcases hw with (rfl | rfl | rfl | rfl | rfl) | (rfl | hw) <;> assumption
    exact ⟨hm, good_of_word (q_GT_good w hm)⟩
  have hcu := va_cwU (R := R) (s := s) (args := args) (own := (m_y X).cls) (C := C) (owner := (m_y Y).cls) (index := idx) (x := x) (y := m_y Y) (bytes := m_b Y) (maxL := m_m Y) (ret := m_r Y) (ws := q_ws Y) (rm := q_rm d b1 sb1) (mc := b1) (ms := sb1) 0 hB.2.2.2.2.1 hT rfl rfl rfl hy ⟨k3.1, k3.2, hdesc⟩ ⟨hfr, by show 8 + (m_m Y + 11) + 64 * d ≤ R.locals; omega⟩
  have hrun : va_Run p (g_l G) e R s m args below meth c H locs cells slots b1 sb1 (F0 m pc lsr ((Value.ref a :: st).map (q_cv G))) (st.map (q_cv G)) (q_Qc G Q' ((Value.ref (q_ad G a) :: []).toArray)) (q_A G) :=
    va_runU hfix h hcu hpre rfl rfl hl.1 (by simp [q_cv]) (lv_room (by rw [q_cats_cv]; exact hst)) hd ⟨by omega, by omega⟩
  refine q_after hrun hS (fun r σ' H1 locs1 hQ hR1 hS1 => ?_)
  obtain ⟨g1, g2, g3⟩ := hq r σ' hQ
  have := g3 p e R s m args below meth c H1 locs1 (cells + b1) (slots + sb1) lsr QW hB (by omega) (by omega) (fun h => by have := hz (by have := g2 h; omega); have := g2 h; omega) hR1 hS1 hl hk
  rwa [List.map_append, ← q_rt G g1] at this
-- the library's max, min, arraycopy, Object's constructor
theorem q_max {x y : Int32} (hd : q_D X pc (.invokestatic idx) 3 nx) (hlk : Cond.methodLink (m_y X).cls idx Lib.Math.max.name ∈ q_GT) (hst : q_cats st ≤ 8) (k : q_At G X (d + 1) b sb nx ls (.int (if x < y then y else x) :: st) σ Q) : q_At G X (d + 1) b sb pc ls (.int y :: .int x :: st) σ Q := by
  intro p e R s m args below meth c H locs cells slots lsr QW hB h1 h2 hz hR hS hl hk
  obtain ⟨hd, rfl⟩ := hd
  have hfr := hB.2.2.2.2.2.2.2.2.2.2.1
  have hlo := hB.2.2.2.2.2.2.2.2.2.2.2
  exact va_mmax hB.1 hB.2.1 (hB.2.2.1.trans hl.1.symm) hB.2.2.2.1 (hB.2.2.2.2.1 _ hlk) (hB.2.2.2.2.1 _ q_wmax1) (hB.2.2.2.2.1 _ q_wmath) (hB.2.2.2.2.1 _ q_wmax2) (by omega) (by rw [q_cats_cv]; omega) (by omega) (by omega) hd (k p e R s m args below meth c H locs cells slots lsr QW hB h1 h2 hz hR hS hl hk)
theorem q_min {x y : Int32} (hd : q_D X pc (.invokestatic idx) 3 nx) (hlk : Cond.methodLink (m_y X).cls idx Lib.Math.min.name ∈ q_GT) (hst : q_cats st ≤ 8) (k : q_At G X (d + 1) b sb nx ls (.int (if y < x then y else x) :: st) σ Q) : q_At G X (d + 1) b sb pc ls (.int y :: .int x :: st) σ Q := by
  intro p e R s m args below meth c H locs cells slots lsr QW hB h1 h2 hz hR hS hl hk
  obtain ⟨hd, rfl⟩ := hd
  have hfr := hB.2.2.2.2.2.2.2.2.2.2.1
  have hlo := hB.2.2.2.2.2.2.2.2.2.2.2
  exact va_mmin hB.1 hB.2.1 (hB.2.2.1.trans hl.1.symm) hB.2.2.2.1 (hB.2.2.2.2.1 _ hlk) (hB.2.2.2.2.1 _ q_wmin1) (hB.2.2.2.2.1 _ q_wmath) (hB.2.2.2.2.1 _ q_wmin2) (by omega) (by rw [q_cats_cv]; omega) (by omega) (by omega) hd (k p e R s m args below meth c H locs cells slots lsr QW hB h1 h2 hz hR hS hl hk)
theorem q_obj (hd : q_D X pc (.invokespecial idx) 3 nx) (hlk : Cond.methodLink (m_y X).cls idx Lib.objectInit ∈ q_GT) (hst : q_cats st ≤ 8) (k : q_At G X (d + 1) b sb nx ls st σ Q) : q_At G X (d + 1) b sb pc ls (.ref a :: st) σ Q := by
  intro p e R s m args below meth c H locs cells slots lsr QW hB h1 h2 hz hR hS hl hk
  obtain ⟨hd, rfl⟩ := hd
  have hfr := hB.2.2.2.2.2.2.2.2.2.2.1
  have hlo := hB.2.2.2.2.2.2.2.2.2.2.2
  exact W.objInit (g := F0 m pc lsr ((Value.ref a :: st).map (q_cv G))) (rest := st.map (q_cv G)) hB.1 hB.2.1 hB.2.2.2.1 (hB.2.2.2.2.1 _ hlk) (hB.2.2.2.2.1 _ q_wobj1) (hB.2.2.2.2.1 _ q_wobj2) rfl (by rw [hB.2.2.1]; exact hl.1) rfl hd (by omega) (by show 2 * 0 + _ + 12 ≤ R.locals; rw [q_cats_cv]; omega) (k p e R s m args below meth c H locs cells slots lsr QW hB h1 h2 hz hR hS hl hk)
def q_cpI (σ : q_S) (a0 i a1 j n : Nat) : q_S := (σ.1, fun a x => if a = a1 then va_cpy (σ.2.1 a0) (σ.2.1 a1) i j n x else σ.2.1 a x, σ.2.2)
theorem q_copy {a0 a1 n0 n1 i j n : Nat} {x y z : Int32} (hd : q_D X pc (.invokestatic idx) 3 nx) (hlk : Cond.methodLink (m_y X).cls idx arraycopyName ∈ q_GT) (hst : q_cats st ≤ 8) (hk0 : q_kd a0 = (1, n0)) (hk1 : q_kd a1 = (1, n1)) (ha0 : a0 < q_n σ) (ha1 : a1 < q_n σ) (hx : x = nI i) (hy : y = nI j) (hzz : z = nI n) (hi : i + n ≤ n0) (hj : j + n ≤ n1) (hn0 : n0 < 2 ^ 31) (hn1 : n1 < 2 ^ 31) (k : q_At G X (d + 1) b sb nx ls st (q_cpI σ a0 i a1 j n) Q) : q_At G X (d + 1) b sb pc ls (.int z :: .int y :: .ref a1 :: .int x :: .ref a0 :: st) σ Q := by
  intro p e R s m args below meth c H locs cells slots lsr QW hB h1 h2 hz hR hS hl hk
  obtain ⟨hd, rfl⟩ := hd
  subst hx; subst hy; subst hzz
  have hfr := hB.2.2.2.2.2.2.2.2.2.2.1
  have hlo := hB.2.2.2.2.2.2.2.2.2.2.2
  have hl0 : a0 < 1000 := Nat.lt_of_lt_of_le (q_kd_lt hk0 (by decide)) (Nat.le_of_lt q_NT_lt)
  have hl1 : a1 < 1000 := Nat.lt_of_lt_of_le (q_kd_lt hk1 (by decide)) (Nat.le_of_lt q_NT_lt)
  have he0 : (q_wl G σ)[a0]? = some (q_ad G a0, .inl (g_cA G 0, n0, .inl (q_I σ a0))) := by rw [q_wl_get ha0, q_ent_1 hk0, q_ad_lt hl0]
  have he1 : (q_wl G σ)[a1]? = some (q_ad G a1, .inl (g_cA G 0, n1, .inl (q_I σ a1))) := by rw [q_wl_get ha1, q_ent_1 hk1, q_ad_lt hl1]
  have ci : (nI i).toNatClampNeg = i := nI_clamp (by omega)
  have cj : (nI j).toNatClampNeg = j := nI_clamp (by omega)
  have cn : (nI n).toNatClampNeg = n := nI_clamp (by omega)
  refine va_copyi (D := g_D G) (ty := .int) hB.1 hB.2.1 (hB.2.2.1.trans hl.1.symm) hB.2.2.2.1 (hB.2.2.2.2.1 _ hlk) (hB.2.2.2.2.1 _ q_wcp1) (hB.2.2.2.2.1 _ q_wcp2) (hB.2.2.2.2.1 _ q_wcp3) hB.2.2.2.2.2.2.2.2.1.1 hR (q_wl_D G σ) hS a0 a1 0 0 he0 he1 rfl rfl rfl (nI_pos (by omega)) (nI_pos (by omega)) (nI_pos (by omega)) (by rw [ci, cn]; exact hi) (by rw [cj, cn]; exact hj) (fun _ _ => rfl) (by omega) (by rw [q_cats_cv]; have := q_nfw; omega) hd (fun H1 locs1 hP1 _ hS1 => ?_)
  have hset : (q_wl G σ).set a1 (q_ad G a1, .inl (g_cA G 0, n1, .inl (va_cpy (q_I σ a0) (q_I σ a1) (nI i).toNatClampNeg (nI j).toNatClampNeg (nI n).toNatClampNeg))) = q_wl G (q_cpI σ a0 i a1 j n) := by
    rw [q_ad_lt hl1, ci, cj, cn]
    refine q_wl_set rfl ?_ (fun a' h => q_ent_same (funext fun x => ?_) rfl rfl)
    · rw [q_ent_1 hk1]
      congr 4
      funext x
      show _ = if a1 = a1 then _ else _
      rw [if_pos rfl]
      rfl
    · show (if a' = a1 then _ else _) = _
      rw [if_neg h]
      rfl
  rw [hset] at hP1
  exact k p e R s m args below meth c H1 locs1 cells slots lsr QW hB h1 h2 hz hP1 hS1 hl hk
theorem q_alen {t n : Nat} (hd : q_D X pc .arraylength 1 nx) (hk0 : q_kd a = (t, n)) (ht : 0 < t) (ht2 : t < 7) (ha : a < q_n σ) (k : q_At G X d b sb nx ls (.int (nI n) :: st) σ Q) : q_At G X d b sb pc ls (.ref a :: st) σ Q := by
  intro p e R s m args below meth c H locs cells slots lsr QW hB h1 h2 hz hR hS hl hk
  obtain ⟨hd, rfl⟩ := hd
  have hla : a < 1000 := Nat.lt_of_lt_of_le (q_kd_lt hk0 (by omega)) (Nat.le_of_lt q_NT_lt)
  have hk9 := k p e R s m args below meth c H locs cells slots lsr QW hB h1 h2 hz hR hS hl hk
  have hcase : t = 1 ∨ t = 2 ∨ t = 3 ∨ t = 4 ∨ t = 5 ∨ t = 6 := by omega
  rcases hcase with rfl | rfl | rfl | rfl | rfl | rfl
  · exact va_alen (D := g_D G) hB.1 hB.2.1 hB.2.2.2.2.2.2.2.2.1.1 hR a 0 (show (q_wl G σ)[a]? = some (q_ad G a, .inl (g_cA G 0, n, .inl (q_I σ a))) by rw [q_wl_get ha, q_ent_1 hk0, ← q_ad_lt hla]) rfl rfl hd hk9
  · exact va_alen (D := g_D G) hB.1 hB.2.1 hB.2.2.2.2.2.2.2.2.1.1 hR a 1 (show (q_wl G σ)[a]? = some (q_ad G a, .inl (g_cA G 1, n, .inr (.inl (q_L σ a)))) by rw [q_wl_get ha, q_ent_2 hk0, ← q_ad_lt hla]) rfl rfl hd hk9
  · exact va_alen (D := g_D G) hB.1 hB.2.1 hB.2.2.2.2.2.2.2.2.1.1 hR a 2 (show (q_wl G σ)[a]? = some (q_ad G a, .inl (g_cA G 2, n, .inl (q_I σ a))) by rw [q_wl_get ha, q_ent_3 hk0, ← q_ad_lt hla]) rfl rfl hd hk9
  · exact va_alen (D := g_D G) hB.1 hB.2.1 hB.2.2.2.2.2.2.2.2.1.1 hR a 3 (show (q_wl G σ)[a]? = some (q_ad G a, .inl (g_cA G 3, n, .inl (q_I σ a))) by rw [q_wl_get ha, q_ent_4 hk0, ← q_ad_lt hla]) rfl rfl hd hk9
  · exact va_alen (D := g_D G) hB.1 hB.2.1 hB.2.2.2.2.2.2.2.2.1.1 hR a 4 (show (q_wl G σ)[a]? = some (q_ad G a, .inl (g_cA G 4, n, .inr (.inr (.inr (.inr fun j => (q_R σ a j).map (q_ad G)))))) by rw [q_wl_get ha, q_ent_5 hk0, ← q_ad_lt hla]) rfl rfl hd hk9
  · exact va_alen (D := g_D G) hB.1 hB.2.1 hB.2.2.2.2.2.2.2.2.1.1 hR a 5 (show (q_wl G σ)[a]? = some (q_ad G a, .inl (g_cA G 5, n, .inr (.inr (.inr (.inr fun j => (q_R σ a j).map (q_ad G)))))) by rw [q_wl_get ha, q_ent_6 hk0, ← q_ad_lt hla]) rfl rfl hd hk9
end QOLD
