theorem CJ.hi {SL : Nat → Nat → Prop} {σ σ' : q_S} {t p : Nat} {D : Nat → Nat} {P : Nat → List Int32} {N : q_nm} {hm : Nat → Nat} {L : Nat → Int32} {un : List q_lf} {mk : Nat → Option (q_lf × q_tl)} {tl : q_tl} {dy : q_dy} {tp : List Nat} (h : CJ σ t p D P N L un mk tl dy tp) (hw : WJ D P N hm L un mk tl dy tp) (hf : Fr hi_ SL σ σ') (hl : ∀ a i, SL a i → 159 ≤ a) : CJ σ' t p D P N L un mk tl dy tp := by
  have ht := isTw_cases h.1.1.2.1
  have hp := isDy_cases h.1.2.1.2.1
  exact ⟨h.1.fr hw.2.2.2.2.2.1.1 hf (fun a i z => by unfold hi_ at z; unfold cj TC; omega) (fun a i z => by have := hl a i z; unfold cjL; omega), h.2.fr hf (fun a i z => by unfold hi_ at z; omega) (fun a i z => by have := hl a i z; omega)⟩
theorem MJ.lo {SL : Nat → Nat → Prop} {σ σ' : q_S} {D : Nat → Nat} {P : Nat → List Int32} {N : q_nm} {hm : Nat → Nat} {L : Nat → Int32} {un : List q_lf} {mk : Nat → Option (q_lf × q_tl)} {tl : q_tl} {dy : q_dy} {tp : List Nat} (h : MJ σ D P N L un mk tl dy tp) (hw : WJ D P N hm L un mk tl dy tp) (hf : Fr lo_ SL σ σ') (hl : ∀ a i, SL a i → a < 159 ∨ a = 182) : MJ σ' D P N L un mk tl dy tp := h.fr hw hf (fun a i z => by unfold lo_ at z; unfold mj; omega) (fun a i z => by have := hl a i z; unfold mjL; omega)
theorem MJ.fq {σ σ' : q_S} {D : Nat → Nat} {P : Nat → List Int32} {N : q_nm} {hm : Nat → Nat} {L : Nat → Int32} {un : List q_lf} {mk : Nat → Option (q_lf × q_tl)} {tl : q_tl} {dy : q_dy} {tp : List Nat} (h : MJ σ D P N L un mk tl dy tp) (hw : WJ D P N hm L un mk tl dy tp) (hf : Fq σ σ') : MJ σ' D P N L un mk tl dy tp := by
  have f : Fr lo_ lo_ σ ((σ.1, σ'.2.1, σ'.2.2.1, σ.2.2.2) : q_S) := ⟨rfl, rfl, fun a i z => (hf.2 a i (by unfold lo_ at z; omega)).1, fun a i z => (hf.2 a i (by unfold lo_ at z; omega)).2⟩
  have := MJ.lo h hw f (fun a i z => Or.inl z)
  exact this
section OPS
variable {G : q_G} {d : Nat} {σ σ' : q_S} {t p : Nat} {D hm hm' : Nat → Nat} {P : Nat → List Int32} {N : q_nm} {L L' : Nat → Int32} {un un' : List q_lf} {mk mk' : Nat → Option (q_lf × q_tl)} {tl tl' : q_tl} {dy : q_dy} {tp : List Nat} {x y z c : Int32}
theorem mkI (hs : q_Sh σ) (w1 : WJ D P N hm L un mk tl dy tp) (w2 : WJ D P N hm L' un' mk' tl dy tp) (hC : CJ σ t p D P N L un mk tl dy tp) (hM : MJ σ D P N L' un' mk' tl dy tp) (hS : Sq D L L' un un' mk mk') : Inv σ := ⟨hs, t, p, D, P, N, hm, L, un, mk, L', un', mk', tl, dy, tp, w1, w2, hC, hM, hS⟩
theorem hi_id : ∀ a i, hi_ a i → 159 ≤ a := fun _ _ z => z
theorem no_hi : ∀ a i, noL a i → 159 ≤ a := fun _ _ z => z.elim
theorem lo_id : ∀ a i, lo_ a i → a < 159 ∨ a = 182 := fun _ _ z => Or.inl z
theorem ot_id : ∀ a i, ot_ a i → a < 159 ∨ a = 182 := fun _ _ z => z
theorem WJ.life (w : WJ D P N hm L un mk tl dy tp) (hL : WL D hm' L') (hU : WU D un') : WJ D P N hm' L' un' mk tl dy tp := ⟨w.1, w.2.1, w.2.2.1, w.2.2.2.1, hL, hU, w.2.2.2.2.2.2⟩
theorem WJ.tape {tp' : List Nat} (w : WJ D P N hm L un mk tl dy tp) (h : WTp tp') : WJ D P N hm L un mk tl dy tp' := ⟨w.1, w.2.1, w.2.2.1, w.2.2.2.1, w.2.2.2.2.1, w.2.2.2.2.2.1, w.2.2.2.2.2.2.1, w.2.2.2.2.2.2.2.1, w.2.2.2.2.2.2.2.2.1, h⟩
theorem WJ.plan {dy' : q_dy} (w : WJ D P N hm L un mk tl dy tp) (h : WY D dy') : WJ D P N hm L un mk tl dy' tp := ⟨w.1, w.2.1, w.2.2.1, w.2.2.2.1, w.2.2.2.2.1, w.2.2.2.2.2.1, w.2.2.2.2.2.2.1, w.2.2.2.2.2.2.2.1, h, w.2.2.2.2.2.2.2.2.2⟩
theorem WJ.tales (w : WJ D P N hm L un mk tl dy tp) (h : WT D tl') : WJ D P N hm L un mk tl' dy tp := ⟨w.1, w.2.1, w.2.2.1, w.2.2.2.1, w.2.2.2.2.1, w.2.2.2.2.2.1, w.2.2.2.2.2.2.1, h, w.2.2.2.2.2.2.2.2⟩
theorem WJ.marks (w : WJ D P N hm L un mk tl dy tp) (h : WM D mk') : WJ D P N hm L un mk' tl dy tp := ⟨w.1, w.2.1, w.2.2.1, w.2.2.2.1, w.2.2.2.2.1, w.2.2.2.2.2.1, h, w.2.2.2.2.2.2.2⟩
theorem WTp_nil : WTp [] := ⟨Nat.zero_le _, fun u h => absurd h List.not_mem_nil⟩
theorem WU_nil : WU D [] := ⟨Nat.zero_le _, fun u h => absurd h List.not_mem_nil⟩
theorem WJ_town {s : q_ts} (h : WS s) : WJ s.1 s.2.1 s.2.2.2 (fun f => f) (stL s.1) [] noM [] [] [] := ⟨h.1, h.2.2.2.2, h.2.1, h.2.2.1, WL_st h.1, WU_nil, fun m hm x h => (by cases h), ⟨Nat.zero_le _, fun u h => absurd h List.not_mem_nil⟩, ⟨Nat.zero_le _, fun u h => absurd h List.not_mem_nil⟩, WTp_nil⟩
theorem WL_any (h0 : D 1 = 0) (h : WL D hm L) : WL D hm' L := ⟨fun f hf => absurd hf (by omega), fun f e hf => absurd hf (by omega), h.2.2⟩
theorem Sq.WLu (h : Sq D L L' un un' mk mk') {u u' : q_lf} {v v' : List q_lf} (e : un = u :: v) (e' : un' = u' :: v') (w2 : WL D u'.1 u'.2) : WL D u.1 u'.2 := by
  rcases h with ⟨_, e2, _⟩ | ⟨h0, _⟩
  · rw [e, e'] at e2
    cases e2
    exact w2
  · exact WL_any h0 w2
theorem Sq.WLm (h : Sq D L L' un un' mk mk') {n : Nat} {u u' : q_lf × q_tl} (e : mk n = some u) (e' : mk' n = some u') (w2 : WL D u'.1.1 u'.1.2) : WL D u.1.1 u'.1.2 := by
  rcases h with ⟨_, _, e2⟩ | ⟨h0, _⟩
  · rw [e2, e'] at e
    cases e
    exact w2
  · exact WL_any h0 w2
theorem WM_set {n : Nat} (h : WM D mk) (hL : WL D hm L) (hT : WT D tl) : WM D (mkU mk n ((hm, L), tl)) := fun m hm x hx => by
  unfold mkU at hx
  split at hx
  · cases hx
    exact ⟨hL, hT⟩
  · exact h m hm x hx
theorem mark_lt (h : ¬ a_mark mk x z = 0) : x.toNatClampNeg < 4 := by
  unfold a_mark at h
  split at h
  · exact absurd rfl h
  · split at h
    · exact absurd rfl h
    · rename_i h1 h2
      rw [Int32.le_iff_toInt_le] at h2
      have e : (4 : Int32).toInt = 4 := by decide
      have : (x.toNatClampNeg : Int) = x.toInt.toNat := rfl
      omega
theorem h_imp {Y : q_M} {hh : List (Nat × Nat × Nat × Nat)} {vs : List Value} {Q Q' : Option Value → q_S → Prop} (h : h_Call G d Y hh vs σ Q') (hq : ∀ r σ', Q' r σ' → Q r σ') : h_Call G d Y hh vs σ Q := by
  intro p e ha hc hk s m args below hf hS hP hK
  obtain ⟨n, o, g1, g2, g3, ⟨r, σ', e1, e2, e3⟩, g5⟩ := h p e ha hc hk s m args below hf hS hP hK
  exact ⟨n, o, g1, g2, g3, ⟨r, σ', e1, hq r σ' e2, e3⟩, g5⟩
theorem iv_3 (hI : Inv σ) : q_Call G (d + 50) 0 0 X_W_house [.ref 0, .int x] σ (q_ri (fun v σ1 => q_Call G (d + 50) 0 0 X_M_house [.ref 159, .int x] σ1 (q_ri (fun v' σ2 => v = v' ∧ Inv σ2)))) := by
  obtain ⟨hs, t, p, D, P, N, hm, L, un, mk, L', un', mk', tl, dy, tp, w1, w2, hC, hM, hS⟩ := hI
  exact W_house_ok hs w1 hC.1 ⟨hs, _, rfl, M_house_ok hs w2 hM ⟨Th_fr.sh hs, _, rfl, rfl, mkI (Th_fr.sh hs) w1 w2 (hC.hi w1 Th_fr hi_id) (MJ.th w2 hM) hS⟩⟩
theorem iv_4 (hI : Inv σ) : q_Call G (d + 50) 0 0 X_W_wall [.ref 0, .int x, .int y] σ (q_ri (fun v σ1 => q_Call G (d + 50) 0 0 X_M_wall [.ref 159, .int x, .int y] σ1 (q_ri (fun v' σ2 => v = v' ∧ Inv σ2)))) := by
  obtain ⟨hs, t, p, D, P, N, hm, L, un, mk, L', un', mk', tl, dy, tp, w1, w2, hC, hM, hS⟩ := hI
  exact W_wall_ok hs w1 hC.1 ⟨hs, _, rfl, M_wall_ok hs w2 hM ⟨Th_fr.sh hs, _, rfl, rfl, mkI (Th_fr.sh hs) w1 w2 (hC.hi w1 Th_fr hi_id) (MJ.th w2 hM) hS⟩⟩
theorem iv_5 (hI : Inv σ) : q_Call G (d + 50) 0 0 X_W_family [.ref 0, .int x, .int y] σ (q_ri (fun v σ1 => q_Call G (d + 50) 0 0 X_M_family [.ref 159, .int x, .int y] σ1 (q_ri (fun v' σ2 => v = v' ∧ Inv σ2)))) := by
  obtain ⟨hs, t, p, D, P, N, hm, L, un, mk, L', un', mk', tl, dy, tp, w1, w2, hC, hM, hS⟩ := hI
  exact W_family_ok hs w1 hC (fun σ1 f1 C1 => ⟨f1.sh hs, _, rfl, M_family_ok (f1.sh hs) w2 (hM.lo w2 f1 lo_id) (fun σ2 f2 M2 => ⟨f2.sh (f1.sh hs), _, rfl, hS.family.symm, mkI (f2.sh (f1.sh hs)) w1 w2 (C1.hi w1 f2 hi_id) M2 hS⟩)⟩)
theorem iv_7 (hI : Inv σ) : q_Call G (d + 50) 0 0 X_W_owes [.ref 0, .int x, .int y] σ (q_ri (fun v σ1 => q_Call G (d + 50) 0 0 X_M_owes [.ref 159, .int x, .int y] σ1 (q_ri (fun v' σ2 => v = v' ∧ Inv σ2)))) := by
  obtain ⟨hs, t, p, D, P, N, hm, L, un, mk, L', un', mk', tl, dy, tp, w1, w2, hC, hM, hS⟩ := hI
  exact W_owes_ok hs w1 hC.1 ⟨hs, _, rfl, M_owes_ok hs w2 hM ⟨Th_fr.sh hs, _, rfl, hS.owes.symm, mkI (Th_fr.sh hs) w1 w2 (hC.hi w1 Th_fr hi_id) (MJ.th w2 hM) hS⟩⟩
theorem iv_13 (hI : Inv σ) : q_Call G (d + 50) 0 0 X_W_judged [.ref 0, .int x] σ (q_ri (fun v σ1 => q_Call G (d + 50) 0 0 X_M_judged [.ref 159, .int x] σ1 (q_ri (fun v' σ2 => v = v' ∧ Inv σ2)))) := by
  obtain ⟨hs, t, p, D, P, N, hm, L, un, mk, L', un', mk', tl, dy, tp, w1, w2, hC, hM, hS⟩ := hI
  exact W_judged_ok hs w1 hC (fun σ1 f1 C1 => ⟨f1.sh hs, _, rfl, M_judged_ok (f1.sh hs) w2 (hM.lo w2 f1 lo_id) (fun σ2 f2 M2 => ⟨f2.sh (f1.sh hs), _, rfl, rfl, mkI (f2.sh (f1.sh hs)) w1 w2 (C1.hi w1 f2 hi_id) M2 hS⟩)⟩)
theorem iv_14 (hI : Inv σ) : q_Call G (d + 50) 0 0 X_W_broken [.ref 0] σ (q_ri (fun v σ1 => q_Call G (d + 50) 0 0 X_M_broken [.ref 159] σ1 (q_ri (fun v' σ2 => v = v' ∧ Inv σ2)))) := by
  obtain ⟨hs, t, p, D, P, N, hm, L, un, mk, L', un', mk', tl, dy, tp, w1, w2, hC, hM, hS⟩ := hI
  exact W_broken_ok hs w1 hC.1 ⟨hs, _, rfl, M_broken_ok' hs w2 hM ⟨Th_fr.sh hs, _, rfl, rfl, mkI (Th_fr.sh hs) w1 w2 (hC.hi w1 Th_fr hi_id) (MJ.th w2 hM) hS⟩⟩
theorem iv_15 (hI : Inv σ) : q_Call G (d + 50) 0 0 X_W_odds [.ref 0, .int x, .int y] σ (q_ri (fun v σ1 => q_Call G (d + 50) 0 0 X_M_odds [.ref 159, .int x, .int y] σ1 (q_ri (fun v' σ2 => v = v' ∧ Inv σ2)))) := by
  obtain ⟨hs, t, p, D, P, N, hm, L, un, mk, L', un', mk', tl, dy, tp, w1, w2, hC, hM, hS⟩ := hI
  exact W_odds_ok hs w1 hC.1 ⟨hs, _, rfl, M_odds_ok hs w2 hM (fun σ2 f2 M2 => ⟨f2.sh hs, _, rfl, rfl, mkI (f2.sh hs) w1 w2 (hC.hi w1 f2 hi_id) M2 hS⟩)⟩
theorem iv_16 (hI : Inv σ) : q_Call G (d + 50) 0 0 X_W_peace [.ref 0, .int x, .int y] σ (q_ri (fun v σ1 => q_Call G (d + 50) 0 0 X_M_peace [.ref 159, .int x, .int y] σ1 (q_ri (fun v' σ2 => v = v' ∧ Inv σ2)))) := by
  obtain ⟨hs, t, p, D, P, N, hm, L, un, mk, L', un', mk', tl, dy, tp, w1, w2, hC, hM, hS⟩ := hI
  exact W_peace_ok hs w1 hC (fun σ1 f1 C1 => ⟨f1.sh hs, _, rfl, M_peace_ok (f1.sh hs) w2 (hM.lo w2 f1 lo_id) (fun σ2 f2 M2 => ⟨f2.sh (f1.sh hs), _, rfl, rfl, mkI (f2.sh (f1.sh hs)) w1 w2 (C1.hi w1 f2 hi_id) M2 hS⟩)⟩)
theorem iv_18 (hI : Inv σ) : q_Call G (d + 50) 0 0 X_W_mend [.ref 0, .int x] σ (q_ri (fun v σ1 => q_Call G (d + 50) 0 0 X_M_mend [.ref 159, .int x] σ1 (q_ri (fun v' σ2 => v = v' ∧ Inv σ2)))) := by
  obtain ⟨hs, t, p, D, P, N, hm, L, un, mk, L', un', mk', tl, dy, tp, w1, w2, hC, hM, hS⟩ := hI
  exact W_mend_ok hs w1 hC (fun σ1 f1 C1 => ⟨f1.sh hs, _, rfl, M_mend_ok (f1.sh hs) w2 (hM.lo w2 f1 lo_id) (fun σ2 f2 M2 => ⟨f2.sh (f1.sh hs), _, rfl, rfl, mkI (f2.sh (f1.sh hs)) w1 w2 (C1.hi w1 f2 hi_id) M2 hS⟩)⟩)
theorem iv_19 (hI : Inv σ) : q_Call G (d + 50) 0 0 X_W_please [.ref 0, .int x] σ (q_ri (fun v σ1 => q_Call G (d + 50) 0 0 X_M_please [.ref 159, .int x] σ1 (q_ri (fun v' σ2 => v = v' ∧ Inv σ2)))) := by
  obtain ⟨hs, t, p, D, P, N, hm, L, un, mk, L', un', mk', tl, dy, tp, w1, w2, hC, hM, hS⟩ := hI
  exact W_please_ok hs w1 hC (fun σ1 f1 C1 => ⟨f1.sh hs, _, rfl, M_please_ok (f1.sh hs) w2 (hM.lo w2 f1 lo_id) (fun σ2 f2 M2 => ⟨f2.sh (f1.sh hs), _, rfl, rfl, mkI (f2.sh (f1.sh hs)) w1 w2 (C1.hi w1 f2 hi_id) M2 hS⟩)⟩)
theorem iv_20 (hI : Inv σ) : q_Call G (d + 50) 0 0 X_W_quiet [.ref 0, .int x] σ (q_ri (fun v σ1 => q_Call G (d + 50) 0 0 X_M_quiet [.ref 159, .int x] σ1 (q_ri (fun v' σ2 => v = v' ∧ Inv σ2)))) := by
  obtain ⟨hs, t, p, D, P, N, hm, L, un, mk, L', un', mk', tl, dy, tp, w1, w2, hC, hM, hS⟩ := hI
  exact W_quiet_ok hs w1 hC (fun σ1 f1 C1 => ⟨f1.sh hs, _, rfl, M_quiet_ok (f1.sh hs) w2 (hM.lo w2 f1 lo_id) (fun σ2 f2 M2 => ⟨f2.sh (f1.sh hs), _, rfl, rfl, mkI (f2.sh (f1.sh hs)) w1 w2 (C1.hi w1 f2 hi_id) M2 hS⟩)⟩)
theorem iv_23 (hI : Inv σ) : q_Call G (d + 50) 0 0 X_W_how [.ref 0] σ (q_ri (fun v σ1 => q_Call G (d + 50) 0 0 X_M_how [.ref 159] σ1 (q_ri (fun v' σ2 => v = v' ∧ Inv σ2)))) := by
  obtain ⟨hs, t, p, D, P, N, hm, L, un, mk, L', un', mk', tl, dy, tp, w1, w2, hC, hM, hS⟩ := hI
  exact W_how_ok hs w1 hC (fun σ1 f1 C1 => ⟨f1.sh hs, _, rfl, M_how_ok (f1.sh hs) w2 (hM.lo w2 f1 lo_id) (fun σ2 f2 M2 => ⟨f2.sh (f1.sh hs), _, rfl, rfl, mkI (f2.sh (f1.sh hs)) w1 w2 (C1.hi w1 f2 hi_id) M2 hS⟩)⟩)
theorem iv_24 (hI : Inv σ) : q_Call G (d + 50) 0 0 X_W_were [.ref 0, .int x, .int y] σ (q_ri (fun v σ1 => q_Call G (d + 50) 0 0 X_M_were [.ref 159, .int x, .int y] σ1 (q_ri (fun v' σ2 => v = v' ∧ Inv σ2)))) := by
  obtain ⟨hs, t, p, D, P, N, hm, L, un, mk, L', un', mk', tl, dy, tp, w1, w2, hC, hM, hS⟩ := hI
  exact W_were_ok hs w1 hC (fun σ1 f1 C1 => ⟨f1.sh hs, _, rfl, M_were_ok (f1.sh hs) w2 (hM.lo w2 f1 lo_id) (fun σ2 f2 M2 => ⟨f2.sh (f1.sh hs), _, rfl, rfl, mkI (f2.sh (f1.sh hs)) w1 w2 (C1.hi w1 f2 hi_id) M2 hS⟩)⟩)
theorem iv_25 (hI : Inv σ) : q_Call G (d + 50) 0 0 X_W_ask [.ref 0] σ (q_ri (fun v σ1 => q_Call G (d + 50) 0 0 X_M_ask [.ref 159] σ1 (q_ri (fun v' σ2 => v = v' ∧ Inv σ2)))) := by
  obtain ⟨hs, t, p, D, P, N, hm, L, un, mk, L', un', mk', tl, dy, tp, w1, w2, hC, hM, hS⟩ := hI
  exact W_ask_ok hs w1 hC (fun σ1 f1 C1 => ⟨f1.sh hs, _, rfl, M_ask_ok (f1.sh hs) w2 (hM.lo w2 f1 lo_id) (fun σ2 f2 M2 => ⟨f2.sh (f1.sh hs), _, rfl, rfl, mkI (f2.sh (f1.sh hs)) w1 w2 (C1.hi w1 f2 hi_id) M2 hS⟩)⟩)
theorem iv_27 (hI : Inv σ) : q_Call G (d + 50) 0 0 X_W_tampered [.ref 0, .int x, .int y, .int z, .int c] σ (q_ri (fun v σ1 => q_Call G (d + 50) 0 0 X_M_tampered [.ref 159, .int x, .int y, .int z, .int c] σ1 (q_ri (fun v' σ2 => v = v' ∧ Inv σ2)))) := by
  obtain ⟨hs, t, p, D, P, N, hm, L, un, mk, L', un', mk', tl, dy, tp, w1, w2, hC, hM, hS⟩ := hI
  exact W_tamp_ok hs w1 hC.1 ⟨hs, _, rfl, M_tamp_ok hs w2 hM ⟨Th_fr.sh hs, _, rfl, rfl, mkI (Th_fr.sh hs) w1 w2 (hC.hi w1 Th_fr hi_id) (MJ.th w2 hM) hS⟩⟩
theorem iv_28 (hI : Inv σ) : q_Call G (d + 50) 0 0 X_W_centuries [.ref 0, .int x, .int y, .int z] σ (q_ri (fun v σ1 => q_Call G (d + 50) 0 0 X_M_centuries [.ref 159, .int x, .int y, .int z] σ1 (q_ri (fun v' σ2 => v = v' ∧ Inv σ2)))) := by
  obtain ⟨hs, t, p, D, P, N, hm, L, un, mk, L', un', mk', tl, dy, tp, w1, w2, hC, hM, hS⟩ := hI
  exact W_centuries_ok (g := rN) (kb := bN) rfl rfl hs w1 hC (fun σ1 f1 C1 => ⟨f1.sh hs, _, rfl, M_centuries_ok (g := rN) (kb := bN) rfl rfl (f1.sh hs) w2 (hM.lo w2 f1 lo_id) (fun σ2 f2 M2 => ⟨f2.sh (f1.sh hs), _, rfl, hS.cent.symm, mkI (f2.sh (f1.sh hs)) w1 w2 (C1.hi w1 f2 hi_id) M2 hS⟩)⟩)
theorem iv_30 (hI : Inv σ) : q_Call G (d + 50) 0 0 X_W_count [.ref 0, .int x] σ (q_ri (fun v σ1 => q_Call G (d + 50) 0 0 X_M_count [.ref 159, .int x] σ1 (q_ri (fun v' σ2 => v = v' ∧ Inv σ2)))) := by
  obtain ⟨hs, t, p, D, P, N, hm, L, un, mk, L', un', mk', tl, dy, tp, w1, w2, hC, hM, hS⟩ := hI
  exact W_count_ok hs w1 hC.1 ⟨hs, _, rfl, M_count_ok hs w2 hM ⟨Th_fr.sh hs, _, rfl, hS.count.symm, mkI (Th_fr.sh hs) w1 w2 (hC.hi w1 Th_fr hi_id) (MJ.th w2 hM) hS⟩⟩
theorem iv_0 {a b c : Int64} (hI : Inv σ) : q_Call G (d + 50) 0 0 X_W_feed [.ref 0, .long a, .long b, .long c] σ (q_ri (fun v σ1 => q_Call G (d + 50) 0 0 X_M_feed [.ref 159, .long a, .long b, .long c] σ1 (q_ri (fun v' σ2 => v = v' ∧ Inv σ2)))) := by
  obtain ⟨hs, t, p, D, P, N, hm, L, un, mk, L', un', mk', tl, dy, tp, w1, w2, hC, hM, hS⟩ := hI
  have ht := fd_ok (v := c) 8 _ (fd_ok (v := b) 8 _ (fd_ok (v := a) 8 _ w1.2.2.2.2.2.2.2.2.2))
  exact W_feed_ok hs w1 hC (fun σ1 f1 C1 => ⟨f1.sh hs, _, rfl, M_feed_ok (f1.sh hs) w2 (hM.lo w2 f1 lo_id) (fun σ2 f2 M2 => ⟨f2.sh (f1.sh hs), _, rfl, rfl, mkI (f2.sh (f1.sh hs)) (w1.tape ht) (w2.tape ht) (C1.hi (w1.tape ht) f2 hi_id) M2 hS⟩)⟩)
theorem iv_1 (hI : Inv σ) : q_Call G (d + 50) 0 0 X_W_town [.ref 0] σ (q_ri (fun v σ1 => q_Call G (d + 50) 0 0 X_M_town [.ref 159] σ1 (q_ri (fun v' σ2 => v = v' ∧ Inv σ2)))) := by
  obtain ⟨hs, t, p, D, P, N, hm, L, un, mk, L', un', mk', tl, dy, tp, w1, w2, hC, hM, hS⟩ := hI
  obtain ⟨M, m1, m2⟩ := IsM_ex tp
  refine W_town_ok m1 m2 (by omega) hs w1 hC (fun e σ1 t' f1 ws C1 => ⟨f1.1, _, rfl, ?_⟩) (fun e σ1 f1 C1 => ⟨f1.1, _, rfl, ?_⟩)
  · refine M_town_ok m1 m2 (by omega) f1.1 w2 (hM.fq w2 f1) (fun _ σ2 f2 _ M2 => ⟨f2.sh f1.1, _, rfl, rfl, ?_⟩) (fun e2 => absurd e e2)
    exact mkI (f2.sh f1.1) (WJ_town ws) (WJ_town ws) (C1.hi (WJ_town ws) f2 hi_id) M2 Sq.rf
  · refine M_town_ok m1 m2 (by omega) f1.1 w2 (hM.fq w2 f1) (fun e2 => absurd e2 e) (fun _ σ2 f2 M2 => ⟨f2.sh f1.1, _, rfl, rfl, ?_⟩)
    exact mkI (f2.sh f1.1) (w1.tape WTp_nil) (w2.tape WTp_nil) (C1.hi (w1.tape WTp_nil) f2 hi_id) M2 hS
theorem iv_2 (hI : Inv σ) : q_Call G (d + 50) 0 0 X_W_days [.ref 0] σ (q_ri (fun v σ1 => q_Call G (d + 50) 0 0 X_M_days [.ref 159] σ1 (q_ri (fun v' σ2 => v = v' ∧ Inv σ2)))) := by
  obtain ⟨hs, t, p, D, P, N, hm, L, un, mk, L', un', mk', tl, dy, tp, w1, w2, hC, hM, hS⟩ := hI
  obtain ⟨M, m1, m2⟩ := IsM_ex tp
  refine W_days_ok m1 m2 (by omega) hs w1 hC (fun e σ1 p' f1 wy C1 => ⟨f1.1, _, rfl, ?_⟩) (fun e σ1 f1 C1 => ⟨f1.1, _, rfl, ?_⟩)
  · refine M_days_ok m1 m2 (by omega) f1.1 w2 (hM.fq w2 f1) (fun _ σ2 f2 _ M2 => ⟨f2.sh f1.1, _, rfl, rfl, ?_⟩) (fun e2 => absurd e e2)
    exact mkI (f2.sh f1.1) ((w1.plan wy).tape WTp_nil) ((w2.plan wy).tape WTp_nil) (C1.hi ((w1.plan wy).tape WTp_nil) f2 hi_id) M2 hS
  · refine M_days_ok m1 m2 (by omega) f1.1 w2 (hM.fq w2 f1) (fun e2 => absurd e2 e) (fun _ σ2 f2 M2 => ⟨f2.sh f1.1, _, rfl, rfl, ?_⟩)
    exact mkI (f2.sh f1.1) (w1.tape WTp_nil) (w2.tape WTp_nil) (C1.hi (w1.tape WTp_nil) f2 hi_id) M2 hS
theorem iv_8 (hI : Inv σ) : q_Call G (d + 50) 0 0 X_W_draw [.ref 0, .int x] σ (q_ri (fun v σ1 => q_Call G (d + 50) 0 0 X_M_draw [.ref 159, .int x] σ1 (q_ri (fun v' σ2 => v = v' ∧ Inv σ2)))) := by
  obtain ⟨hs, t, p, D, P, N, hm, L, un, mk, L', un', mk', tl, dy, tp, w1, w2, hC, hM, hS⟩ := hI
  refine W_draw_ok hs w1 hC (fun c => ⟨hs, _, rfl, M_draw_ok hs w2 hM (fun _ => ⟨Th_fr.sh hs, _, rfl, rfl, mkI (Th_fr.sh hs) w1 w2 (hC.hi w1 Th_fr hi_id) (MJ.th w2 hM) hS⟩) (fun c2 => absurd c c2)⟩) (fun c σ1 f1 C1 => ⟨f1.sh hs, _, rfl, M_draw_ok (f1.sh hs) w2 (hM.lo w2 f1 lo_id) (fun c2 => absurd c2 c) (fun _ σ2 f2 M2 => ⟨f2.sh (f1.sh hs), _, rfl, hS.drawn.symm, ?_⟩)⟩)
  have v1 := w1.life (WL_rd (n := x.toNatClampNeg) w1.1 w1.2.2.2.2.1) (WU_push w1.2.2.2.2.2.1 w1.2.2.2.2.1)
  have v2 := w2.life (WL_rd (n := x.toNatClampNeg) w2.1 w2.2.2.2.2.1) (WU_push w2.2.2.2.2.2.1 w2.2.2.2.2.1)
  exact mkI (f2.sh (f1.sh hs)) v1 v2 (C1.hi v1 f2 hi_id) M2 hS.draw
theorem iv_9 (hI : Inv σ) : q_Call G (d + 50) 0 0 X_W_swap [.ref 0, .int x, .int y] σ (q_ri (fun v σ1 => q_Call G (d + 50) 0 0 X_M_swap [.ref 159, .int x, .int y] σ1 (q_ri (fun v' σ2 => v = v' ∧ Inv σ2)))) := by
  obtain ⟨hs, t, p, D, P, N, hm, L, un, mk, L', un', mk', tl, dy, tp, w1, w2, hC, hM, hS⟩ := hI
  refine W_swap_ok hs w1 hC (fun c => ⟨hs, _, rfl, M_swap_ok' hs w2 hM (fun _ => ⟨Th_fr.sh hs, _, rfl, rfl, mkI (Th_fr.sh hs) w1 w2 (hC.hi w1 Th_fr hi_id) (MJ.th w2 hM) hS⟩) (fun c2 => absurd c c2)⟩) (fun c σ1 f1 C1 => ⟨f1.sh hs, _, rfl, M_swap_ok' (f1.sh hs) w2 (hM.lo w2 f1 lo_id) (fun c2 => absurd c2 c) (fun _ σ2 f2 M2 => ⟨f2.sh (f1.sh hs), _, rfl, rfl, ?_⟩)⟩)
  obtain ⟨rfl, rfl, rfl⟩ := hS.two c
  have h6 := w1.1.F6
  obtain ⟨f, e, a1, a2, a3, rfl, rfl⟩ := twoN_s (by omega) c
  rw [nI_clamp (by omega), nI_clamp (by omega)] at C1 M2
  have v1 := w1.life (WL_swp w1.1 w1.2.2.2.2.1 a1 a2) (WU_push w1.2.2.2.2.2.1 w1.2.2.2.2.1)
  exact mkI (f2.sh (f1.sh hs)) v1 v1 (C1.hi v1 f2 hi_id) M2 Sq.rf
theorem iv_10 (hI : Inv σ) : q_Call G (d + 50) 0 0 X_W_lend [.ref 0, .int x, .int y, .int c] σ (q_ri (fun v σ1 => q_Call G (d + 50) 0 0 X_M_lend [.ref 159, .int x, .int y, .int c] σ1 (q_ri (fun v' σ2 => v = v' ∧ Inv σ2)))) := by
  obtain ⟨hs, t, p, D, P, N, hm, L, un, mk, L', un', mk', tl, dy, tp, w1, w2, hC, hM, hS⟩ := hI
  refine W_lend_ok hs w1 hC (fun e => ⟨hs, _, rfl, M_lend_ok hs w2 hM (fun _ => ⟨Th_fr.sh hs, _, rfl, rfl, mkI (Th_fr.sh hs) w1 w2 (hC.hi w1 Th_fr hi_id) (MJ.th w2 hM) hS⟩) (fun c2 => absurd (hS.lend.trans e) c2)⟩) (fun e σ1 f1 C1 => ⟨f1.sh hs, _, rfl, M_lend_ok (f1.sh hs) w2 (hM.lo w2 f1 lo_id) (fun c2 => absurd (hS.lend.symm.trans c2) e) (fun _ σ2 f2 M2 => ⟨f2.sh (f1.sh hs), _, rfl, rfl, ?_⟩)⟩)
  have e2 : ¬ twoN (D 1) x y = 0 := fun e2 => e (by rw [a_lend, if_pos e2])
  obtain ⟨rfl, rfl, rfl⟩ := hS.two e2
  have h6 := w1.1.F6
  obtain ⟨f, g, a1, a2, a3, rfl, rfl⟩ := twoN_s (by omega) e2
  rw [nI_clamp (by omega), nI_clamp (by omega)] at C1 M2
  have v1 := w1.life (WL_len (c := c) w1.1 w1.2.2.2.2.1 a1 a2) (WU_push w1.2.2.2.2.2.1 w1.2.2.2.2.1)
  exact mkI (f2.sh (f1.sh hs)) v1 v1 (C1.hi v1 f2 hi_id) M2 Sq.rf
theorem iv_11 (hI : Inv σ) : q_Call G (d + 50) 0 0 X_W_pay [.ref 0, .int x, .int y, .int c] σ (q_ri (fun v σ1 => q_Call G (d + 50) 0 0 X_M_pay [.ref 159, .int x, .int y, .int c] σ1 (q_ri (fun v' σ2 => v = v' ∧ Inv σ2)))) := by
  obtain ⟨hs, t, p, D, P, N, hm, L, un, mk, L', un', mk', tl, dy, tp, w1, w2, hC, hM, hS⟩ := hI
  refine W_pay_ok hs w1 hC (fun e => ⟨hs, _, rfl, M_pay_ok hs w2 hM (fun _ => ⟨Th_fr.sh hs, _, rfl, rfl, mkI (Th_fr.sh hs) w1 w2 (hC.hi w1 Th_fr hi_id) (MJ.th w2 hM) hS⟩) (fun c2 => absurd (hS.pay.trans e) c2)⟩) (fun e σ1 f1 C1 => ⟨f1.sh hs, _, rfl, M_pay_ok (f1.sh hs) w2 (hM.lo w2 f1 lo_id) (fun c2 => absurd (hS.pay.symm.trans c2) e) (fun _ σ2 f2 M2 => ⟨f2.sh (f1.sh hs), _, rfl, rfl, ?_⟩)⟩)
  have e2 : ¬ twoN (D 1) x y = 0 := fun e2 => e (by rw [a_pay, if_pos e2])
  obtain ⟨rfl, rfl, rfl⟩ := hS.two e2
  have h6 := w1.1.F6
  obtain ⟨f, g, a1, a2, a3, rfl, rfl⟩ := twoN_s (by omega) e2
  rw [nI_clamp (by omega), nI_clamp (by omega)] at C1 M2
  have v1 := w1.life (WL_pay (c := c) w1.1 w1.2.2.2.2.1 a1 a2) (WU_push w1.2.2.2.2.2.1 w1.2.2.2.2.1)
  exact mkI (f2.sh (f1.sh hs)) v1 v1 (C1.hi v1 f2 hi_id) M2 Sq.rf
theorem iv_12 (hI : Inv σ) : q_Call G (d + 50) 0 0 X_W_undo [.ref 0] σ (q_ri (fun v σ1 => q_Call G (d + 50) 0 0 X_M_undo [.ref 159] σ1 (q_ri (fun v' σ2 => v = v' ∧ Inv σ2)))) := by
  obtain ⟨hs, t, p, D, P, N, hm, L, un, mk, L', un', mk', tl, dy, tp, w1, w2, hC, hM, hS⟩ := hI
  refine W_undo_ok hs w1 hC (fun e => ⟨hs, _, rfl, M_undo_ok hs w2 hM (fun _ => ⟨Th_fr.sh hs, _, rfl, rfl, mkI (Th_fr.sh hs) w1 w2 (hC.hi w1 Th_fr hi_id) (MJ.th w2 hM) hS⟩) (fun u v e2 => absurd (hS.undo0.mp e) (by rw [e2]; exact List.cons_ne_nil _ _))⟩) (fun u v e σ1 f1 C1 => ⟨f1.sh hs, _, rfl, M_undo_ok (f1.sh hs) w2 (hM.lo w2 f1 lo_id) (fun e2 => absurd (hS.undo0.mpr e2) (by rw [e]; exact List.cons_ne_nil _ _)) (fun u' v' e' σ2 f2 M2 => ⟨f2.sh (f1.sh hs), _, rfl, rfl, ?_⟩)⟩)
  have q1 := w1.2.2.2.2.2.1
  have q2 := w2.2.2.2.2.2.1
  have hl := hS.WLu e e' (q2.2 u' (by rw [e']; exact List.mem_cons_self))
  rw [e] at q1 hS
  rw [e'] at q2 hS
  have v1 := w1.life (q1.2 u List.mem_cons_self) (un' := v) ⟨Nat.le_of_succ_le q1.1, fun z hz => q1.2 z (List.mem_cons_of_mem _ hz)⟩
  have v2 := w2.life hl (un' := v') ⟨Nat.le_of_succ_le q2.1, fun z hz => q2.2 z (List.mem_cons_of_mem _ hz)⟩
  exact mkI (f2.sh (f1.sh hs)) v1 v2 (C1.hi v1 f2 hi_id) M2 hS.undo
theorem iv_22 (hI : Inv σ) : q_Call G (d + 50) 0 0 X_W_tale [.ref 0, .int x, .int y, .int z] σ (q_ri (fun v σ1 => q_Call G (d + 50) 0 0 X_M_tale [.ref 159, .int x, .int y, .int z] σ1 (q_ri (fun v' σ2 => v = v' ∧ Inv σ2)))) := by
  obtain ⟨hs, t, p, D, P, N, hm, L, un, mk, L', un', mk', tl, dy, tp, w1, w2, hC, hM, hS⟩ := hI
  refine W_tale_ok hs w1 hC (fun e => ⟨hs, _, rfl, M_tale_ok hs w2 hM (fun _ => ⟨Th_fr.sh hs, _, rfl, rfl, mkI (Th_fr.sh hs) w1 w2 (hC.hi w1 Th_fr hi_id) (MJ.th w2 hM) hS⟩) (fun c2 => absurd e c2)⟩) (fun e σ1 f1 C1 => ⟨f1.sh hs, _, rfl, M_tale_ok (f1.sh hs) w2 (hM.lo w2 f1 lo_id) (fun c2 => absurd c2 e) (fun _ σ2 f2 M2 => ⟨f2.sh (f1.sh hs), _, rfl, rfl, ?_⟩)⟩)
  have e2 : ¬ twoN (D 1) x y = 0 := fun e2 => e (by rw [a_tale, if_pos e2])
  have e3 : tl.length < 10 := Nat.lt_of_not_le (fun h => e (by rw [a_tale, if_neg e2, if_neg (by omega)]))
  have h6 := w1.1.F6
  obtain ⟨f, g, a1, a2, a3, rfl, rfl⟩ := twoN_s (by omega) e2
  rw [nI_clamp (by omega), nI_clamp (by omega)] at C1 M2
  have hT : WT D (tl ++ [(f, g, decide (¬ z = 0))]) := ⟨by rw [List.length_append]; exact e3, fun u hu => by
    rcases List.mem_append.mp hu with h | h
    · exact w1.2.2.2.2.2.2.2.1.2 u h
    · rw [List.mem_singleton.mp h]
      exact ⟨a1, a2, a3⟩⟩
  exact mkI (f2.sh (f1.sh hs)) (w1.tales hT) (w2.tales hT) (C1.hi (w1.tales hT) f2 hi_id) M2 hS
theorem iv_29 (hI : Inv σ) : q_Call G (d + 50) 0 0 X_W_mark [.ref 0, .int x, .int z] σ (q_ri (fun v σ1 => q_Call G (d + 50) 0 0 X_M_mark [.ref 159, .int x, .int z] σ1 (q_ri (fun v' σ2 => v = v' ∧ Inv σ2)))) := by
  obtain ⟨hs, t, p, D, P, N, hm, L, un, mk, L', un', mk', tl, dy, tp, w1, w2, hC, hM, hS⟩ := hI
  refine W_mark_ok hs w1 hC (fun e => ⟨hs, _, rfl, M_mark_ok hs w2 hM (fun _ => ⟨Th_fr.sh hs, _, rfl, rfl, mkI (Th_fr.sh hs) w1 w2 (hC.hi w1 Th_fr hi_id) (MJ.th w2 hM) hS⟩) (fun c2 => absurd (hS.mark0.trans e) c2) (fun c2 => absurd (hS.mark0.trans e) c2)⟩) (fun e ez σ1 f1 C1 => ⟨f1.sh hs, _, rfl, M_mark_ok (f1.sh hs) w2 (hM.lo w2 f1 lo_id) (fun c2 => absurd (hS.mark0.symm.trans c2) e) (fun _ _ σ2 f2 M2 => ⟨f2.sh (f1.sh hs), _, rfl, rfl, ?_⟩) (fun _ c2 => absurd ez c2)⟩) (fun e ez v ev σ1 f1 C1 => ⟨f1.sh hs, _, rfl, M_mark_ok (f1.sh hs) w2 (hM.lo w2 f1 lo_id) (fun c2 => absurd (hS.mark0.symm.trans c2) e) (fun _ c2 => absurd c2 ez) (fun _ _ v' ev' σ2 f2 M2 => ⟨f2.sh (f1.sh hs), _, rfl, rfl, ?_⟩)⟩)
  · have v1 := w1.marks (WM_set (n := x.toNatClampNeg) w1.2.2.2.2.2.2.1 w1.2.2.2.2.1 w1.2.2.2.2.2.2.2.1)
    have v2 := w2.marks (WM_set (n := x.toNatClampNeg) w2.2.2.2.2.2.2.1 w2.2.2.2.2.1 w2.2.2.2.2.2.2.2.1)
    exact mkI (f2.sh (f1.sh hs)) v1 v2 (C1.hi v1 f2 hi_id) M2 hS.mark1
  · have hx := mark_lt e
    obtain ⟨q1, q2⟩ := hS.mark2 ev ev'
    have a1 := w1.2.2.2.2.2.2.1 _ hx v ev
    have a2 := w2.2.2.2.2.2.2.1 _ hx v' ev'
    have v1 := (w1.life (un' := []) a1.1 WU_nil).tales a1.2
    have v2 := (w2.life (un' := []) (hS.WLm ev ev' a2.1) WU_nil).tales a2.2
    rw [← q1] at v2 M2
    exact mkI (f2.sh (f1.sh hs)) v1 v2 (C1.hi v1 f2 hi_id) M2 q2
theorem iv_6 (hst : (g_l G).stackTraces = false) (hI : Inv σ) : h_Call G (d + 50) X_L_joy [(0, 9, 12, 13)] [.ref 0, .int x, .ref 182] σ (fun r σ1 => ∃ o : Option Int32, r = some (.int (thr o)) ∧ q_Sh σ1 ∧ (∀ v, o = some v → q_L σ1 182 0 = v.toInt64) ∧ q_Call G (d + 50) 0 0 X_M_joy [.ref 159, .int x] σ1 (q_ri (fun w σ2 => w = o.getD 0 ∧ q_I σ2 159 0 = thr o ∧ q_L σ2 182 0 = q_L σ1 182 0 ∧ Inv σ2))) := by
  obtain ⟨hs, t, p, D, P, N, hm, L, un, mk, L', un', mk', tl, dy, tp, w1, w2, hC, hM, hS⟩ := hI
  refine h_imp (L_joy_ok (d := d + 35) hst hs w1 hC) (fun r σ1 hr => ?_)
  obtain ⟨rfl, f1, C1, g1⟩ := hr
  refine ⟨_, rfl, f1.sh hs, g1, M_joy_okk (d := d + 41) (f1.sh hs) w2 (hM.lo w2 f1 ot_id) (fun σ2 f2 M2 e => ⟨f2.sh (f1.sh hs), _, rfl, ?_, ?_, f2.2.2.2 _ _ (fun z => z), mkI (f2.sh (f1.sh hs)) w1 w2 (C1.hi w1 f2 no_hi) M2 hS⟩)⟩
  · rfl
  · exact e
theorem iv_17 (hst : (g_l G).stackTraces = false) (hI : Inv σ) : h_Call G (d + 50) X_L_hope [(0, 9, 12, 13)] [.ref 0, .int x, .ref 182] σ (fun r σ1 => ∃ o : Option Int32, r = some (.int (thr o)) ∧ q_Sh σ1 ∧ (∀ v, o = some v → q_L σ1 182 0 = v.toInt64) ∧ q_Call G (d + 50) 0 0 X_M_hope [.ref 159, .int x] σ1 (q_ri (fun w σ2 => w = o.getD 0 ∧ q_I σ2 159 0 = thr o ∧ q_L σ2 182 0 = q_L σ1 182 0 ∧ Inv σ2))) := by
  obtain ⟨hs, t, p, D, P, N, hm, L, un, mk, L', un', mk', tl, dy, tp, w1, w2, hC, hM, hS⟩ := hI
  refine h_imp (L_hope_ok (d := d + 35) hst hs w1 hC) (fun r σ1 hr => ?_)
  obtain ⟨rfl, f1, C1, g1⟩ := hr
  refine ⟨_, rfl, f1.sh hs, g1, M_hope_ok (d := d + 41) (f1.sh hs) w2 (hM.lo w2 f1 ot_id) (fun σ2 f2 M2 e => ⟨f2.sh (f1.sh hs), _, rfl, ?_, ?_, f2.2.2.2 _ _ (fun z => z), mkI (f2.sh (f1.sh hs)) w1 w2 (C1.hi w1 f2 no_hi) M2 hS⟩)⟩
  · rfl
  · exact e
theorem iv_21 (hst : (g_l G).stackTraces = false) (hI : Inv σ) : h_Call G (d + 50) X_L_rests [(0, 12, 15, 13)] [.ref 0, .int x, .int y, .int z, .ref 182] σ (fun r σ1 => ∃ o : Option Int32, r = some (.int (thr o)) ∧ q_Sh σ1 ∧ (∀ v, o = some v → q_L σ1 182 0 = v.toInt64) ∧ q_Call G (d + 50) 0 0 X_M_rests [.ref 159, .int x, .int y, .int z] σ1 (q_ri (fun w σ2 => w = o.getD 0 ∧ q_I σ2 159 0 = thr o ∧ q_L σ2 182 0 = q_L σ1 182 0 ∧ Inv σ2))) := by
  obtain ⟨hs, t, p, D, P, N, hm, L, un, mk, L', un', mk', tl, dy, tp, w1, w2, hC, hM, hS⟩ := hI
  refine h_imp (L_rests_ok (d := d + 35) hst hs w1 hC) (fun r σ1 hr => ?_)
  obtain ⟨rfl, f1, C1, g1⟩ := hr
  refine ⟨_, rfl, f1.sh hs, g1, M_rests_ok (d := d + 41) (f1.sh hs) w2 (hM.lo w2 f1 ot_id) (fun σ2 f2 M2 e => ⟨f2.sh (f1.sh hs), _, rfl, ?_, ?_, f2.2.2.2 _ _ (fun z => z), mkI (f2.sh (f1.sh hs)) w1 w2 (C1.hi w1 f2 no_hi) M2 hS⟩)⟩
  · rfl
  · exact e
theorem iv_26 (hst : (g_l G).stackTraces = false) (hI : Inv σ) : h_Call G (d + 50) X_L_gains [(0, 9, 12, 13)] [.ref 0, .int x, .ref 182] σ (fun r σ1 => ∃ o : Option Int32, r = some (.int (thr o)) ∧ q_Sh σ1 ∧ (∀ v, o = some v → q_L σ1 182 0 = v.toInt64) ∧ q_Call G (d + 50) 0 0 X_M_gains [.ref 159, .int x] σ1 (q_ri (fun w σ2 => w = o.getD 0 ∧ q_I σ2 159 0 = thr o ∧ q_L σ2 182 0 = q_L σ1 182 0 ∧ Inv σ2))) := by
  obtain ⟨hs, t, p, D, P, N, hm, L, un, mk, L', un', mk', tl, dy, tp, w1, w2, hC, hM, hS⟩ := hI
  refine h_imp (L_gains_ok (d := d + 35) hst hs w1 hC) (fun r σ1 hr => ?_)
  obtain ⟨rfl, f1, C1, g1⟩ := hr
  refine ⟨_, rfl, f1.sh hs, g1, M_gains_ok (d := d + 41) (f1.sh hs) w2 (hM.lo w2 f1 ot_id) (fun σ2 f2 M2 e => ⟨f2.sh (f1.sh hs), _, rfl, ?_, ?_, f2.2.2.2 _ _ (fun z => z), mkI (f2.sh (f1.sh hs)) w1 w2 (C1.hi w1 f2 no_hi) M2 hS⟩)⟩
  · rw [hS.gains]
  · rw [e, hS.gains]
end OPS
