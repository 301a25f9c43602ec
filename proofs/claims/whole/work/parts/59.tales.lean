def asT (D w : Nat → Nat) (tl : q_tl) : Bool := tl.all (fun x => decide (thk D w x.1 x.2.1 ≠ 0) == x.2.2)
def fitN (D : Nat → Nat) (tl : q_tl) : Nat := cnt (fun w => asT D w tl) (wys D) (wys D).length
def nrN (D : Nat → Nat) (tl : q_tl) (f e : Nat) : Nat := cnt (fun w => asT D w tl && decide (thk D w f e ≠ 0)) (wys D) (wys D).length
theorem cnt_cong {b b' : (Nat → Nat) → Bool} {ws : List (Nat → Nat)} (h : ∀ w ∈ ws, b w = b' w) : ∀ k, cnt b ws k = cnt b' ws k
  | 0 => rfl
  | k + 1 => by
    rw [cnt, cnt, cnt_cong h k]
    split
    · next w hw => rw [h w (List.mem_of_getElem? hw)]
    · rfl
theorem cnt_mono {b b' : (Nat → Nat) → Bool} {ws : List (Nat → Nat)} (h : ∀ w, b w = true → b' w = true) : ∀ k, cnt b ws k ≤ cnt b' ws k
  | 0 => Nat.le_refl 0
  | k + 1 => by
    have ih := cnt_mono (ws := ws) h k
    rw [cnt, cnt]
    split
    · next w hw =>
      by_cases c : b w = true
      · rw [if_pos c, if_pos (h w c)]; omega
      · rw [if_neg c]; omega
    · exact ih
theorem nr_le (D : Nat → Nat) (tl : q_tl) (f e : Nat) : nrN D tl f e ≤ fitN D tl := cnt_mono (fun w h => by simp at h; exact h.1) _
theorem and_or_eq {p m b : Int64} : (p &&& (m ||| b) = m ||| b) ↔ (p &&& m = m ∧ p &&& b = b) := by
  constructor
  · intro h
    have h1 : ∀ i, tb (p &&& (m ||| b)) i = tb (m ||| b) i := fun i => by rw [h]
    constructor
    · refine tb_ext (fun i hi => ?_)
      have := h1 i
      rw [tb_and, tb_or] at this
      rw [tb_and]
      revert this
      cases tb p i <;> cases tb m i <;> cases tb b i <;> decide
    · refine tb_ext (fun i hi => ?_)
      have := h1 i
      rw [tb_and, tb_or] at this
      rw [tb_and]
      revert this
      cases tb p i <;> cases tb m i <;> cases tb b i <;> decide
  · rintro ⟨h1, h2⟩
    refine tb_ext (fun i hi => ?_)
    have g1 : tb (p &&& m) i = tb m i := by rw [h1]
    have g2 : tb (p &&& b) i = tb b i := by rw [h2]
    rw [tb_and] at g1 g2
    rw [tb_and, tb_or]
    revert g1 g2
    cases tb p i <;> cases tb m i <;> cases tb b i <;> decide
theorem and_or_0 {p m b : Int64} : (p &&& (m ||| b) = 0) ↔ (p &&& m = 0 ∧ p &&& b = 0) := by
  constructor
  · intro h
    have h1 : ∀ i, tb (p &&& (m ||| b)) i = false := fun i => by rw [h, tb_0]
    constructor
    · refine tb_ext (fun i hi => ?_)
      have := h1 i
      rw [tb_and, tb_or] at this
      rw [tb_and, tb_0]
      revert this
      cases tb p i <;> cases tb m i <;> cases tb b i <;> decide
    · refine tb_ext (fun i hi => ?_)
      have := h1 i
      rw [tb_and, tb_or] at this
      rw [tb_and, tb_0]
      revert this
      cases tb p i <;> cases tb m i <;> cases tb b i <;> decide
  · rintro ⟨h1, h2⟩
    refine tb_ext (fun i hi => ?_)
    have g1 : tb (p &&& m) i = false := by rw [h1, tb_0]
    have g2 : tb (p &&& b) i = false := by rw [h2, tb_0]
    rw [tb_and] at g1 g2
    rw [tb_and, tb_or, tb_0]
    revert g1 g2
    cases tb p i <;> cases tb m i <;> cases tb b i <;> decide
theorem and_pbit_eq {x : Int64} {f e : Nat} (hf : f < 6) (he : e < 6) : (x &&& pbit f e = pbit f e) ↔ tb x (ix f e) = true := by
  have hi := ix_lt hf he
  constructor
  · intro h
    have h1 : tb (x &&& pbit f e) (ix f e) = tb (pbit f e) (ix f e) := by rw [h]
    rw [tb_and, tb_pbit f hf e he _ (by omega)] at h1
    simpa using h1
  · intro h
    refine tb_ext (fun i hi => ?_)
    rw [tb_and, tb_pbit f hf e he i hi]
    by_cases c : i = ix f e
    · subst c; simp [h]
    · simp [c]
theorem bes_iff {p : Int64} : ∀ (tl : q_tl) (m : Int64), (p &&& tl.foldl (fun m x => if x.2.2 then m ||| pbit x.1 x.2.1 else m) m = tl.foldl (fun m x => if x.2.2 then m ||| pbit x.1 x.2.1 else m) m) ↔ (p &&& m = m ∧ ∀ x ∈ tl, x.2.2 = true → p &&& pbit x.1 x.2.1 = pbit x.1 x.2.1)
  | [], m => by simp
  | x :: tl, m => by
    rw [List.foldl_cons, bes_iff tl]
    by_cases c : x.2.2 = true
    · rw [if_pos c, and_or_eq]
      simp [c, and_assoc]
    · rw [if_neg c]
      simp [c]
theorem ap_iff {p : Int64} : ∀ (tl : q_tl) (m : Int64), (p &&& tl.foldl (fun m x => if x.2.2 then m else m ||| pbit x.1 x.2.1) m = 0) ↔ (p &&& m = 0 ∧ ∀ x ∈ tl, x.2.2 = false → p &&& pbit x.1 x.2.1 = 0)
  | [], m => by simp
  | x :: tl, m => by
    rw [List.foldl_cons, ap_iff tl]
    by_cases c : x.2.2 = true
    · rw [if_pos c]
      simp [c]
    · have c2 : x.2.2 = false := by simpa using c
      rw [if_neg c, and_or_0]
      simp [c2, and_assoc]
theorem and0L (x : Int64) : x &&& 0 = 0 := tb_ext (fun i _ => by rw [tb_and, tb_0, Bool.and_false])
theorem asT_iff {D w : Nat → Nat} {tl : q_tl} (hD : WfD D) (hw : ∀ f, f < D 1 → w f < D 0) (ht : WT D tl) : (prs D w &&& besM tl = besM tl ∧ prs D w &&& apM tl = 0) ↔ asT D w tl = true := by
  have h6 := hD.F6
  unfold besM apM
  rw [bes_iff, ap_iff, asT, List.all_eq_true]
  constructor
  · rintro ⟨⟨_, h1⟩, ⟨_, h2⟩⟩ x hx
    obtain ⟨a1, a2, a3⟩ := ht.2 x hx
    cases hb : x.2.2 with
    | true =>
      have := h1 x hx hb
      rw [and_pbit_eq (by omega) (by omega), prs_bit hD hw a1 a2 a3] at this
      simp [this]
    | false =>
      have := h2 x hx hb
      rw [prs_and hD hw a1 a2 a3] at this
      simp [this]
  · intro h
    refine ⟨⟨and0L _, fun x hx hb => ?_⟩, ⟨and0L _, fun x hx hb => ?_⟩⟩
    · obtain ⟨a1, a2, a3⟩ := ht.2 x hx
      have := h x hx
      rw [hb] at this
      rw [and_pbit_eq (by omega) (by omega), prs_bit hD hw a1 a2 a3]
      simpa using this
    · obtain ⟨a1, a2, a3⟩ := ht.2 x hx
      have := h x hx
      rw [hb] at this
      rw [prs_and hD hw a1 a2 a3]
      simpa using this
section TALES
variable {G : q_G} {d : Nat} {σ σ' : q_S} {Q : Option Value → q_S → Prop} {t p : Nat} {D : Nat → Nat} {P : Nat → List Int32} {N : q_nm} {hm w : Nat → Nat} {L L' : Nat → Int32} {un un' : List q_lf} {mk mk' : Nat → Option (q_lf × q_tl)} {tl tl' : q_tl} {dy : q_dy} {tp : List Nat} {x y z c : Int32}
theorem Tl_agree_ok {a : Nat} (ha : q_isTl a) (hs : q_Sh σ) (hD : WfD D) (hw : ∀ f, f < D 1 → w f < D 0) (ht : WT D tl) (hT : CTl σ a tl) (hq : Q (some (.int (if asT D w tl then 1 else 0))) σ) : q_Call G d 0 0 X_Tl_agreeWith [.ref a, .long (prs D w)] σ Q := by
  refine q_ci (by decide +kernel) (Nat.le_of_ble_eq_true rfl) (fun Q hq => ?_) hq
  have e : (if (lg_cmp (prs D w &&& (q_L σ a 0)) (q_L σ a 0)) = 0 then (if (lg_cmp (prs D w &&& (q_L σ a 1)) 0) = 0 then (1 : Int32) else (0 : Int32)) else (0 : Int32)) = if asT D w tl then 1 else 0 := by
    rw [hT.1, hT.2.1]
    simp only [cmp_eq]
    by_cases c : asT D w tl = true
    · obtain ⟨c1, c2⟩ := (asT_iff hD hw ht).mpr c
      rw [if_pos c, if_pos c1, if_pos c2]
    · rw [if_neg c]
      by_cases c1 : prs D w &&& besM tl = besM tl
      · rw [if_pos c1, if_neg (fun c2 => c ((asT_iff hD hw ht).mp ⟨c1, c2⟩))]
      · rw [if_neg c1]
  refine v_Tl_agreeWith_0 ha hs ?_
  rw [e]
  exact ⟨by split <;> rfl, hq⟩
theorem Wy_agree_ok {m : Int64} (hs : q_Sh σ) (hD : WfD D) (hW : WyD σ D P (wys D)) (ht : WT D tl) (hT : CTl σ 14 tl) (hq : Q (some (.int (nI (cnt (fun w => asT D w tl && decide (prs D w &&& m = m)) (wys D) (wys D).length)))) σ) : q_Call G (d + 1) 0 0 X_Wy_agreeing [.ref 5, .ref 14, .long m] σ Q := by
  have hl := (wys_len hD).1
  refine q_ci (by decide +kernel) (Nat.le_of_ble_eq_true rfl) (fun Q hq => ?_) hq
  refine v_Wy_agreeing_0 isTl_14 hs ?_
  refine up_ind (R := fun k => q_At G X_Wy_agreeing (d + 1) 0 0 6 [some (.ref 5), some (.ref 14), some (.long m), none, some (.int (nI (cnt (fun w => asT D w tl && decide (prs D w &&& m = m)) (wys D) k))), some (.int (nI k))] [] σ Q) (n := (wys D).length) ?_ (fun k hk ih => ?_) 0 (Nat.zero_le _)
  · exact v_Wy_agreeing_6 isTl_14 hs ⟨fun _ => hq, fun c => absurd (by rw [hW.2.1]; exact Int32.le_refl _) c⟩
  · obtain ⟨w, hwk⟩ := get_some hk
    have hwo := wys_ok (List.mem_of_getElem? hwk)
    rw [cnt_s hwk] at ih
    have eP := (hW.2.2.1 k w hwk).2.2.1
    refine v_Wy_agreeing_6 isTl_14 hs ⟨fun c => by rw [hW.2.1] at c; exact ge_not c hk (by omega), fun _ => ⟨k, rfl, by omega, ?_⟩⟩
    rw [eP]
    refine Tl_agree_ok isTl_14 hs hD hwo.1 ht hT ⟨hs, _, rfl, fun c => ?_, fun c => ⟨k, rfl, by omega, fun c2 => ?_, fun c2 => ?_⟩⟩
    · rw [if10] at c
      rw [if_neg (by simp [c]), Nat.add_zero] at ih
      rw [nI_1]; exact ih
    · rw [if10, Classical.not_not] at c
      rw [eP, cmp_eq] at c2
      rw [if_neg (by simp [c2]), Nat.add_zero] at ih
      rw [nI_1]; exact ih
    · rw [if10, Classical.not_not] at c
      rw [eP, cmp_eq] at c2
      rw [if_pos (by simp [c, c2])] at ih
      rw [nI_1, nI_1]; exact ih
theorem Wy_all_ok (hs : q_Sh σ) (hD : WfD D) (hW : WyD σ D P (wys D)) (ht : WT D tl) (hT : CTl σ 14 tl) (hq : Q (some (.int (nI (fitN D tl)))) σ) : q_Call G (d + 1) 0 0 X_Wy_agreeing [.ref 5, .ref 14, .long 0] σ Q := by
  refine Wy_agree_ok hs hD hW ht hT ?_
  rw [cnt_cong (b' := fun w => asT D w tl) (fun w hw => by simp [and0L])]
  exact hq
theorem Wy_two_ok {f e : Nat} (hs : q_Sh σ) (hD : WfD D) (hW : WyD σ D P (wys D)) (ht : WT D tl) (hT : CTl σ 14 tl) (hf : f < D 1) (he : e < D 1) (hne : f ≠ e) (hq : Q (some (.int (nI (nrN D tl f e)))) σ) : q_Call G (d + 1) 0 0 X_Wy_agreeing [.ref 5, .ref 14, .long (pbit f e)] σ Q := by
  have h6 := hD.F6
  refine Wy_agree_ok hs hD hW ht hT ?_
  rw [cnt_cong (b' := fun w => asT D w tl && decide (thk D w f e ≠ 0)) (fun w hw => by
    have hwo := wys_ok hw
    have := and_pbit_eq (x := prs D w) (f := f) (e := e) (by omega) (by omega)
    rw [prs_bit hD hwo.1 hf he hne] at this
    rw [decide_eq_decide.mpr this])]
  exact hq
def a_were (D : Nat → Nat) (tl : q_tl) (x y : Int32) : Int32 := if twoN (D 1) x y = 0 then -1 else if fitN D tl = 0 then -1 else if nrN D tl x.toNatClampNeg y.toNatClampNeg = 0 then 0 else if nrN D tl x.toNatClampNeg y.toNatClampNeg = fitN D tl then 1 else 2
theorem fit_lt (hD : WfD D) : fitN D tl < 2 ^ 30 := by
  have h1 := cnt_le (b := fun w => asT D w tl) (ws := wys D) (wys D).length
  have h2 := (wys_len hD).1
  unfold fitN
  omega
theorem W_how_ok (hs : q_Sh σ) (hw : WJ D P N hm L un mk tl dy tp) (hJ : CJ σ t p D P N L un mk tl dy tp) (hq : ∀ σ', Fr lo_ lo_ σ σ' → CJ σ' t p D P N L un mk tl dy tp → Q (some (.int (nI (fitN D tl)))) σ') : q_Call G (d + 13) 0 0 X_W_how [.ref 0] σ Q := by
  refine q_cii (Pp := fun v σ' => v = nI (fitN D tl) ∧ Fr lo_ lo_ σ σ' ∧ CJ σ' t p D P N L un mk tl dy tp) (by decide +kernel) (Nat.le_of_ble_eq_true rfl) (fun Q hq => ?_) (fun v σ' h => by rw [h.1]; exact hq σ' h.2.1 h.2.2)
  refine v_W_how_0 hs ⟨t, hJ.1.1.1, hJ.1.1.2.1, Wy_learn_ok (d := d) hJ.1.1.2.1 hs hw.1 hw.2.1 hJ.1.2.2.1 hJ.2 (fun σ1 f1 g1 g2 => ⟨f1.sh hs, rfl, ?_⟩)⟩
  have hJ1 := hJ.ln hw f1 g1 g2
  exact Wy_all_ok (d := d + 11) (f1.sh hs) hw.1 g2 hw.2.2.2.2.2.2.2.1 hJ1.1.2.2.2.2.2.2.2.1 ⟨f1.sh hs, _, rfl, hq _ _ ⟨rfl, SLn_L f1, hJ1⟩⟩
theorem W_were_ok (hs : q_Sh σ) (hw : WJ D P N hm L un mk tl dy tp) (hJ : CJ σ t p D P N L un mk tl dy tp) (hq : ∀ σ', Fr lo_ lo_ σ σ' → CJ σ' t p D P N L un mk tl dy tp → Q (some (.int (a_were D tl x y))) σ') : q_Call G (d + 13) 0 0 X_W_were [.ref 0, .int x, .int y] σ Q := by
  have h6 := hw.1.F6
  refine q_cii (Pp := fun v σ' => v = a_were D tl x y ∧ Fr lo_ lo_ σ σ' ∧ CJ σ' t p D P N L un mk tl dy tp) (by decide +kernel) (Nat.le_of_ble_eq_true rfl) (fun Q hq => ?_) (fun v σ' h => by rw [h.1]; exact hq σ' h.2.1 h.2.2)
  refine v_W_were_0 hs (W_areTwo_ok hs hJ.1 ⟨hs, _, rfl, fun k => ⟨t, hJ.1.1.1, hJ.1.1.2.1, ?_⟩, fun k => hq _ _ ⟨by rw [a_were, if_pos k], Fr.rf, hJ⟩⟩)
  obtain ⟨f, e, a1, a2, a3, rfl, rfl⟩ := twoN_s (by omega) k
  refine Wy_learn_ok (d := d) hJ.1.1.2.1 hs hw.1 hw.2.1 hJ.1.2.2.1 hJ.2 (fun σ1 f1 g1 g2 => ⟨f1.sh hs, rfl, ?_⟩)
  have hJ1 := hJ.ln hw f1 g1 g2
  have hs1 := f1.sh hs
  refine Wy_all_ok (d := d + 11) hs1 hw.1 g2 hw.2.2.2.2.2.2.2.1 hJ1.1.2.2.2.2.2.2.2.1 ⟨hs1, _, rfl, W_pairBit_ok hs1 (by omega) (by omega) ⟨hs1, _, rfl, Wy_two_ok (d := d + 11) hs1 hw.1 g2 hw.2.2.2.2.2.2.2.1 hJ1.1.2.2.2.2.2.2.2.1 a1 a2 a3 ⟨hs1, _, rfl, ?_⟩⟩⟩
  have fl := fit_lt (tl := tl) hw.1
  have nl := nr_le D tl f e
  have e0 : a_were D tl (nI f) (nI e) = if nI (fitN D tl) = 0 then -1 else if nI (nrN D tl f e) = 0 then 0 else if nI (nrN D tl f e) = nI (fitN D tl) then 1 else 2 := by
    rw [a_were, if_neg k, nI_clamp (by omega), nI_clamp (by omega)]
    simp only [← nI_0, nI_eq (show fitN D tl < 2 ^ 31 by omega) (show 0 < 2 ^ 31 by decide), nI_eq (show nrN D tl f e < 2 ^ 31 by omega) (show 0 < 2 ^ 31 by decide), nI_eq (show nrN D tl f e < 2 ^ 31 by omega) (show fitN D tl < 2 ^ 31 by omega)]
  refine ⟨fun c => hq _ _ ⟨by rw [e0, if_neg c], SLn_L f1, hJ1⟩, fun c => hq _ _ ⟨by rw [e0, if_pos c], SLn_L f1, hJ1⟩⟩
-- whom to ask next
def grN (D : Nat → Nat) (tl : q_tl) (f e : Nat) : Nat := if nrN D tl f e < fitN D tl - nrN D tl f e then fitN D tl - nrN D tl f e else nrN D tl f e
def akE (D : Nat → Nat) (tl : q_tl) (f : Nat) : Nat → Int32 × Nat → Int32 × Nat
  | 0, s => s
  | n + 1, s => if f < n ∧ grN D tl f n < (akE D tl f n s).2 then (nI (f * 6 + n), grN D tl f n) else akE D tl f n s
def akF (D : Nat → Nat) (tl : q_tl) : Nat → Int32 × Nat
  | 0 => (-1, fitN D tl)
  | n + 1 => akE D tl n (D 1) (akF D tl n)
theorem akE_low {f : Nat} {s : Int32 × Nat} : ∀ n, n ≤ f + 1 → akE D tl f n s = s
  | 0, _ => rfl
  | n + 1, h => by rw [akE, if_neg (by omega)]; exact akE_low n (by omega)
theorem akE_le {f : Nat} {s : Int32 × Nat} : ∀ n, (akE D tl f n s).2 ≤ s.2
  | 0 => Nat.le_refl _
  | n + 1 => by
    have := akE_le (f := f) (s := s) n
    rw [akE]
    split
    · next h => exact Nat.le_trans (Nat.le_of_lt h.2) this
    · exact this
theorem akF_le : ∀ n, (akF D tl n).2 ≤ fitN D tl
  | 0 => Nat.le_refl _
  | n + 1 => by rw [akF]; exact Nat.le_trans (akE_le _) (akF_le n)
theorem gr_le (D : Nat → Nat) (tl : q_tl) (f e : Nat) : grN D tl f e ≤ fitN D tl := by
  have := nr_le D tl f e
  unfold grN
  split <;> omega
theorem W_ask_ok (hs : q_Sh σ) (hw : WJ D P N hm L un mk tl dy tp) (hJ : CJ σ t p D P N L un mk tl dy tp) (hq : ∀ σ', Fr lo_ lo_ σ σ' → CJ σ' t p D P N L un mk tl dy tp → Q (some (.int (akF D tl (D 1)).1)) σ') : q_Call G (d + 13) 0 0 X_W_ask [.ref 0] σ Q := by
  have h6 := hw.1.F6
  refine q_cii (Pp := fun v σ' => v = (akF D tl (D 1)).1 ∧ Fr lo_ lo_ σ σ' ∧ CJ σ' t p D P N L un mk tl dy tp) (by decide +kernel) (Nat.le_of_ble_eq_true rfl) (fun Q hq => ?_) (fun v σ' h => by rw [h.1]; exact hq σ' h.2.1 h.2.2)
  refine v_W_ask_0 hs ⟨t, hJ.1.1.1, hJ.1.1.2.1, Wy_learn_ok (d := d) hJ.1.1.2.1 hs hw.1 hw.2.1 hJ.1.2.2.1 hJ.2 (fun σ1 f1 g1 g2 => ⟨f1.sh hs, rfl, ?_⟩)⟩
  have hJ1 := hJ.ln hw f1 g1 g2
  have hs1 := f1.sh hs
  have fl := fit_lt (tl := tl) hw.1
  have hF := hJ1.1.2.2.1.1.1.2.1
  refine Wy_all_ok (d := d + 11) hs1 hw.1 g2 hw.2.2.2.2.2.2.2.1 hJ1.1.2.2.2.2.2.2.2.1 ⟨hs1, _, rfl, ?_⟩
  refine up_ind (R := fun k => q_At G X_W_ask (d + 13) 0 0 31 [some (.ref 0), some (.int (nI (fitN D tl))), some (.int (nI (akF D tl k).2)), some (.int (akF D tl k).1), some (.int (nI k)), none, none, none] [] σ1 Q) (n := D 1) ?_ (fun k hk ih => ?_) 0 (Nat.zero_le _)
  · exact v_W_ask_31 hs1 ⟨t, hJ1.1.1.1, hJ1.1.1.2.1, fun _ => hq _ _ ⟨rfl, SLn_L f1, hJ1⟩, fun c => absurd (by rw [hF]; exact Int32.le_refl _) c⟩
  · refine v_W_ask_31 hs1 ⟨t, hJ1.1.1.1, hJ1.1.1.2.1, fun c => by rw [hF] at c; exact ge_not c hk (by omega), fun _ => ?_⟩
    rw [nI_1]
    have lp := up_ind (R := fun n => k + 1 ≤ n → q_At G X_W_ask (d + 13) 0 0 49 [some (.ref 0), some (.int (nI (fitN D tl))), some (.int (nI (akE D tl k n (akF D tl k)).2)), some (.int (akE D tl k n (akF D tl k)).1), some (.int (nI k)), some (.int (nI n)), none, none] [] σ1 Q) (n := D 1) (fun _ => ?_) (fun n hn ih2 hkn => ?_)
    · have := lp (k + 1) (by omega) (Nat.le_refl _)
      rw [akE_low _ (Nat.le_refl _)] at this
      exact this
    · refine v_W_ask_49 hs1 ⟨t, hJ1.1.1.1, hJ1.1.1.2.1, fun _ => ?_, fun c => absurd (by rw [hF]; exact Int32.le_refl _) c⟩
      rw [nI_1]; exact ih
    · refine v_W_ask_49 hs1 ⟨t, hJ1.1.1.1, hJ1.1.1.2.1, fun c => by rw [hF] at c; exact ge_not c hn (by omega), fun _ => ?_⟩
      have nl := nr_le D tl k n
      have gl := gr_le D tl k n
      have al : (akE D tl k n (akF D tl k)).2 ≤ fitN D tl := Nat.le_trans (akE_le _) (akF_le k)
      have eg : (if nI (nrN D tl k n) < nI (fitN D tl) - nI (nrN D tl k n) then nI (fitN D tl) - nI (nrN D tl k n) else nI (nrN D tl k n)) = nI (grN D tl k n) := by
        rw [pk_sub nl]
        unfold grN
        simp only [nI_ltI (show nrN D tl k n < 2 ^ 31 by omega) (show fitN D tl - nrN D tl k n < 2 ^ 31 by omega)]
        split <;> rfl
      have ih2 := ih2 (by omega)
      rw [akE] at ih2
      refine W_pairBit_ok hs1 (by omega) (by omega) ⟨hs1, _, rfl, Wy_two_ok (d := d + 11) hs1 hw.1 g2 hw.2.2.2.2.2.2.2.1 hJ1.1.2.2.2.2.2.2.2.1 hk hn (by omega) ⟨hs1, _, rfl, ?_⟩⟩
      dsimp only
      rw [eg, nI_1, q_mul6]
      refine ⟨fun c => ?_, fun c => ?_⟩
      · rw [nI_leI (by omega) (by omega)] at c
        rw [if_neg (by omega)] at ih2
        exact ih2
      · rw [nI_leI (by omega) (by omega)] at c
        rw [if_pos ⟨by omega, by omega⟩] at ih2
        exact ih2
end TALES
