-- what a call of a helper needs
def q_CH (own : String) (idx : Nat) (Y : q_M) (hh : List (Nat × Nat × Nat × Nat)) (n : Nat) : Prop := (Cond.codeWith (m_y Y) (m_b Y) (m_m Y) (m_r Y) hh ∈ q_GT ∧ Cond.methodLink own idx (m_y Y) ∈ q_GT ∧ Cond.static (m_y Y) ∈ q_GT ∧ Cond.initialized (m_y Y).cls ∈ q_GT) ∧ ((m_y Y).cls ≠ "java/lang/invoke/MethodHandle" ∧ (m_y Y).cls ≠ "java/lang/invoke/VarHandle" ∧ (parseMethodDescriptor (m_y Y).desc).map (fun d => d.parameters.length) = some n) ∧ m_m Y ≤ 45
theorem kh_joy : q_CH "WallLotteryLaw" 58 X_L_joy [(0, 9, 12, 13)] 3 := ⟨by decide +kernel, by decide +kernel, by decide +kernel⟩
theorem kh_hope : q_CH "WallLotteryLaw" 110 X_L_hope [(0, 9, 12, 13)] 3 := ⟨by decide +kernel, by decide +kernel, by decide +kernel⟩
theorem kh_rests : q_CH "WallLotteryLaw" 125 X_L_rests [(0, 12, 15, 13)] 5 := ⟨by decide +kernel, by decide +kernel, by decide +kernel⟩
theorem kh_gains : q_CH "WallLotteryLaw" 146 X_L_gains [(0, 9, 12, 13)] 3 := ⟨by decide +kernel, by decide +kernel, by decide +kernel⟩
section LCALLS
variable {G : q_G} {X Y : q_M} {d b sb n pc nx idx : Nat} {ls : List (Option Value)} {st As : List Value} {σ : q_S} {Q Q' : Option Value → q_S → Prop} {hh : List (Nat × Nat × Nat × Nat)}
theorem q_callH (hd : q_D X pc (.invokestatic idx) 3 nx) (hC : q_CH (m_y X).cls idx Y hh n) (hn : As.length = n) (hst : q_cats st ≤ 8) (h : h_Call G d Y hh As σ Q') (hq : ∀ r σ', Q' r σ' → (∀ i, r ≠ some (.retAddr i)) ∧ (q_n σ' < q_NT → q_n σ + 1 ≤ q_n σ') ∧ q_At G X (d + 1) b sb nx ls (q_rs r ++ st) σ' Q) : q_At G X (d + 1) (1 + b) (6 + sb) pc ls (As.reverse ++ st) σ Q := by
  intro p e R s m args below meth c H locs cells slots lsr QW hB h1 h2 hz hR hS hl hk
  obtain ⟨hd, rfl⟩ := hd
  refine q_size (fun hH => ?_)
  have hpre : PreS s H (q_Pc G σ As) (As.map (q_cv G)) := ⟨q_Pc_blind G σ As, fun U hU hW => q_pre hB hz hR hS hH As U hU hW⟩
  have hfix : CallFix p m c (m_b X) (m_m X) s args q_GT (m_y X).cls := ⟨hB.1, hB.2.1, hB.2.2.1, hB.2.2.2.1, hB.2.2.2.2.1⟩
  obtain ⟨⟨c1, c2, c3, c4⟩, c5, c6⟩ := hC
  have hgood : GoodIn q_GT (va_wsS (m_y X).cls idx (m_y Y) (q_wsH Y hh)) := by
    intro w hw
    have hm : w ∈ q_GT := by
      rcases List.mem_append.mp hw with h | h
      · simp only [List.mem_cons, List.not_mem_nil, or_false] at h
        rcases h with rfl | rfl | rfl
        · exact c2
        · exact c3
        · exact c4
      · rcases List.mem_cons.mp h with rfl | h
        · exact c1
        · exact h
    exact ⟨hm, good_of_word (q_GT_good w hm)⟩
  have hfr := hB.2.2.2.2.2.2.2.2.2.2.1
  have hlo := hB.2.2.2.2.2.2.2.2.2.2.2
  have cw : vx_CSW R s args (m_y X).cls idx (m_y Y) (m_b Y) (m_m Y) (m_r Y) hh (q_wsH Y hh) (q_rm d 1 6) 1 6 n := vx_cwSW n hB.2.2.2.2.1 hgood rfl rfl rfl c5 ⟨hfr, by show 8 + (m_m Y + 11) + 64 * d ≤ R.locals; omega⟩
  have hrun : va_Run p (g_l G) e R s m args below meth c H locs cells slots 1 6 (F0 m pc lsr ((As.reverse ++ st).map (q_cv G))) (st.map (q_cv G)) (q_Qc G Q' ((As.map (q_cv G)).toArray)) (q_A G) :=
    vx_runSW hfix h cw hpre rfl (by rw [List.length_map]; exact hn) hl.1 (by simp [F0]) (lv_room (by rw [q_cats_cv]; exact hst)) hd ⟨by omega, by omega⟩
  refine q_after hrun hS (fun r σ' H1 locs1 hQ hR1 hS1 => ?_)
  obtain ⟨g1, g2, g3⟩ := hq r σ' hQ
  have := g3 p e R s m args below meth c H1 locs1 (cells + 1) (slots + 6) lsr QW hB (by omega) (by omega) (fun h => by have := hz (by have := g2 h; omega); have := g2 h; omega) hR1 hS1 hl hk
  rwa [List.map_append, ← q_rt G g1] at this
end LCALLS
-- the long row of one place: only the law's helpers write it
def ot_ : Nat → Nat → Prop := fun a _ => a < 159 ∨ a = 182
section LDATA
variable {G : q_G} {d : Nat} {σ σ' : q_S} {Q : Option Value → q_S → Prop} {t p : Nat} {D : Nat → Nat} {P : Nat → List Int32} {N : q_nm} {hm : Nat → Nat} {L : Nat → Int32} {un : List q_lf} {mk : Nat → Option (q_lf × q_tl)} {tl : q_tl} {dy : q_dy} {tp : List Nat} {x y z : Int32}
theorem CJ.out (hw : WJ D P N hm L un mk tl dy tp) (hJ : CJ σ t p D P N L un mk tl dy tp) {v : Int64} : CJ (q_setL σ 182 0 v) t p D P N L un mk tl dy tp := by
  have fr : Fr noL (fun a i => a = 182 ∧ i = 0) σ (q_setL σ 182 0 v) := Fr.setL ⟨rfl, rfl⟩
  exact ⟨hJ.1.fr hw.2.2.2.2.2.1.1 fr (fun _ _ z => z.elim) (fun a i z => by have := isTw_cases hJ.1.1.2.1; unfold cjL; omega), hJ.2.fr fr (fun _ _ z => z.elim) (fun a i z => by omega)⟩
-- how a helper ends
def L_end (σ : q_S) (t p : Nat) (D : Nat → Nat) (P : Nat → List Int32) (N : q_nm) (L : Nat → Int32) (un : List q_lf) (mk : Nat → Option (q_lf × q_tl)) (tl : q_tl) (dy : q_dy) (tp : List Nat) (o : Option Int32) : Option Value → q_S → Prop := fun r σ' => r = some (.int (thr o)) ∧ Fr lo_ ot_ σ σ' ∧ CJ σ' t p D P N L un mk tl dy tp ∧ ∀ v, o = some v → q_L σ' 182 0 = v.toInt64
theorem lo_ot (h : Fr lo_ lo_ σ σ') : Fr lo_ ot_ σ σ' := h.mono (fun _ _ z => z) (fun _ _ z => Or.inl z)
theorem L_fin {o : Option Int32} (hs : q_Sh σ) (hw : WJ D P N hm L un mk tl dy tp) {Q' : Option Value → q_S → Prop} {QX : q_S → Prop} (hQ : Q' = fun r σ' => Fr lo_ lo_ σ σ' ∧ CJ σ' t p D P N L un mk tl dy tp ∧ ∃ v, r = some (.int v) ∧ o = some v) (hX : QX = fun σ' => Fr lo_ lo_ σ σ' ∧ CJ σ' t p D P N L un mk tl dy tp ∧ o = none) :
    (∀ r σ', Q' r σ' → ∃ v, r = some (.int v) ∧ q_Sh σ' ∧ L_end σ t p D P N L un mk tl dy tp o (some (.int 0)) (q_setL σ' 182 0 v.toInt64)) ∧ (∀ σ', QX σ' → q_Sh σ' ∧ L_end σ t p D P N L un mk tl dy tp o (some (.int 1)) σ') := by
  subst hQ hX
  constructor
  · rintro r σ' ⟨h1, h2, v, rfl, rfl⟩
    refine ⟨v, rfl, h1.sh hs, rfl, (lo_ot h1).tr (Fr.setL (Or.inr rfl)), h2.out hw, fun v' e => ?_⟩
    cases e
    exact q_L_eq
  · rintro σ' ⟨h1, h2, rfl⟩
    exact ⟨h1.sh hs, rfl, lo_ot h1, h2, fun v' e => by cases e⟩
theorem L_joy_ok (hst : (g_l G).stackTraces = false) (hs : q_Sh σ) (hw : WJ D P N hm L un mk tl dy tp) (hJ : CJ σ t p D P N L un mk tl dy tp) : h_Call G (d + 15) X_L_joy [(0, 9, 12, 13)] [.ref 0, .int x, .ref 182] σ (L_end σ t p D P N L un mk tl dy tp (a_joy D hm P x)) := by
  obtain ⟨f1, f2⟩ := L_fin (t := t) (p := p) (o := a_joy D hm P x) hs hw rfl rfl
  exact L_one rfl rfl rfl o_L_joy_0 o_L_joy_1 o_L_joy_2 o_L_joy_3 o_L_joy_4 o_L_joy_7 o_L_joy_8 o_L_joy_9 o_L_joy_12 o_L_joy_13 o_L_joy_14 o_L_joy_15 o_L_joy_16 kp_L_7 hs (W_joy_ok hst hs hw hJ (fun σ' g1 g2 => ⟨fun v e => ⟨g1, g2, v, rfl, e⟩, fun e => ⟨g1, g2, e⟩⟩)) f1 f2
theorem L_hope_ok (hst : (g_l G).stackTraces = false) (hs : q_Sh σ) (hw : WJ D P N hm L un mk tl dy tp) (hJ : CJ σ t p D P N L un mk tl dy tp) : h_Call G (d + 15) X_L_hope [(0, 9, 12, 13)] [.ref 0, .int x, .ref 182] σ (L_end σ t p D P N L un mk tl dy tp (a_hope D P x)) := by
  obtain ⟨f1, f2⟩ := L_fin (t := t) (p := p) (o := a_hope D P x) hs hw rfl rfl
  exact L_one rfl rfl rfl o_L_hope_0 o_L_hope_1 o_L_hope_2 o_L_hope_3 o_L_hope_4 o_L_hope_7 o_L_hope_8 o_L_hope_9 o_L_hope_12 o_L_hope_13 o_L_hope_14 o_L_hope_15 o_L_hope_16 kp_L_15 hs (W_hope_ok hst hs hw hJ (fun σ' g1 g2 => ⟨fun v e => ⟨g1, g2, v, rfl, e⟩, fun e => ⟨g1, g2, e⟩⟩)) f1 f2
theorem L_gains_ok (hst : (g_l G).stackTraces = false) (hs : q_Sh σ) (hw : WJ D P N hm L un mk tl dy tp) (hJ : CJ σ t p D P N L un mk tl dy tp) : h_Call G (d + 15) X_L_gains [(0, 9, 12, 13)] [.ref 0, .int x, .ref 182] σ (L_end σ t p D P N L un mk tl dy tp (a_gains D hm L x)) := by
  obtain ⟨f1, f2⟩ := L_fin (t := t) (p := p) (o := a_gains D hm L x) hs hw rfl rfl
  exact L_one rfl rfl rfl o_L_gains_0 o_L_gains_1 o_L_gains_2 o_L_gains_3 o_L_gains_4 o_L_gains_7 o_L_gains_8 o_L_gains_9 o_L_gains_12 o_L_gains_13 o_L_gains_14 o_L_gains_15 o_L_gains_16 kp_L_22 hs (W_gains_ok hst hs hw hJ (fun σ' g1 g2 => ⟨fun v e => ⟨g1, g2, v, rfl, e⟩, fun e => ⟨g1, g2, e⟩⟩)) f1 f2
theorem L_rests_ok (hst : (g_l G).stackTraces = false) (hs : q_Sh σ) (hw : WJ D P N hm L un mk tl dy tp) (hJ : CJ σ t p D P N L un mk tl dy tp) : h_Call G (d + 15) X_L_rests [(0, 12, 15, 13)] [.ref 0, .int x, .int y, .int z, .ref 182] σ (L_end σ t p D P N L un mk tl dy tp (a_rests D hm P x y z)) := by
  obtain ⟨f1, f2⟩ := L_fin (t := t) (p := p) (o := a_rests D hm P x y z) hs hw rfl rfl
  exact L_three rfl rfl rfl o_L_rests_0 o_L_rests_2 o_L_rests_3 o_L_rests_4 o_L_rests_5 o_L_rests_6 o_L_rests_7 o_L_rests_10 o_L_rests_11 o_L_rests_12 o_L_rests_15 o_L_rests_17 o_L_rests_18 o_L_rests_19 o_L_rests_20 kp_L_18 hs (W_rests_ok hst hs hw hJ (fun σ' g1 g2 => ⟨fun v e => ⟨g1, g2, v, rfl, e⟩, fun e => ⟨g1, g2, e⟩⟩)) f1 f2
end LDATA
