theorem bx_sum_cong {f g : Nat → Int32} : ∀ {n : Nat}, (∀ k, k < n → f k = g k) → bx_sum f n = bx_sum g n
  | 0, _ => rfl
  | n + 1, h => by rw [bx_sum, bx_sum, bx_sum_cong (fun k hk => h k (by omega)), h n (by omega)]
theorem bx_sum_more {f : Nat → Int32} {n : Nat} : ∀ m, (∀ k, n ≤ k → k < n + m → f k = 0) → bx_sum f (n + m) = bx_sum f n
  | 0, _ => rfl
  | m + 1, h => by rw [← Nat.add_assoc, bx_sum, h (n + m) (by omega) (by omega), Int32.add_zero]; exact bx_sum_more m (fun k h1 h2 => h k h1 (by omega))
def a_wall (D : Nat → Nat) (x y : Int32) : Int32 := if isN (D 0) x = 0 then -1 else if isN (D 0) y = 0 then -1 else if D (8 + (x.toNatClampNeg * 6 + y.toNatClampNeg)) = 0 then -1 else nI (D (8 + (x.toNatClampNeg * 6 + y.toNatClampNeg)))
def a_fam (D hm : Nat → Nat) (P : Nat → List Int32) (L : Nat → Int32) (f : Nat) (k : Int) : Int32 :=
  if k = 0 then nI (D (44 + 4 * f)) else if k = 1 then loud D f else if k = 2 then hear D f else if k = 3 then L (6 + f) else if k = 4 then L f else if k = 5 then nbits D hm f else if k = 6 then felt D hm P f else if k = 7 then (if 0 ≤ joyv D hm P f then 1 else 0) else -1
def a_family (D hm : Nat → Nat) (P : Nat → List Int32) (L : Nat → Int32) (x y : Int32) : Int32 := if isN (D 1) x = 0 then -1 else a_fam D hm P L x.toNatClampNeg y.toInt
def a_owes (D : Nat → Nat) (L : Nat → Int32) (x y : Int32) : Int32 := if twoN (D 1) x y = 0 then -1 else L (12 + (x.toNatClampNeg * 6 + y.toNatClampNeg))
def a_count (D : Nat → Nat) (L : Nat → Int32) (un : List q_lf) (tl : q_tl) (dy : q_dy) (tp : List Nat) (k : Int) : Int32 :=
  if k = 0 then nI (D 0) else if k = 1 then nI (D 1) else if k = 2 then nI (D 2) else if k = 3 then nI (D 3) else if k = 4 then nI (D 4) else if k = 5 then L 48 else if k = 6 then L 49 else if k = 7 then bx_sum (fun i => L (6 + i)) (D 1) else if k = 8 then bx_sum (fun i => L (12 + i)) 36 else if k = 9 then nI dy.length else if k = 10 then nI tl.length else if k = 11 then nI un.length else if k = 12 then nI tp.length else -1
section ASK1
variable {G : q_G} {d : Nat} {σ σ' : q_S} {Q : Option Value → q_S → Prop} {t p : Nat} {D : Nat → Nat} {P : Nat → List Int32} {N : q_nm} {hm : Nat → Nat} {L : Nat → Int32} {un : List q_lf} {mk : Nat → Option (q_lf × q_tl)} {tl : q_tl} {dy : q_dy} {tp : List Nat} {x y : Int32}
theorem CJ0.hom (hw : WJ D P N hm L un mk tl dy tp) (hJ : CJ0 σ t p D P N L un mk tl dy tp) : HM σ 16 D hm := hJ.2.2.2.2.1.HM (v := 15) hw.1 hw.2.2.2.2.1.1
theorem MJ.hb (hw : WJ D P N hm L un mk tl dy tp) (hJ : MJ σ D P N L un mk tl dy tp) : HB σ 0 D hm := hJ.2.2.1.HB hw.1 hw.2.2.2.2.1.1
theorem Fr.lo {SI SL : Nat → Nat → Prop} (hf : Fr SI SL σ σ') (h1 : ∀ a i, SI a i → a < 159) (h2 : ∀ a i, SL a i → a < 159) : Fr lo_ lo_ σ σ' := hf.mono h1 h2
theorem Fr.hi {SI SL : Nat → Nat → Prop} (hf : Fr SI SL σ σ') (h1 : ∀ a i, SI a i → 159 ≤ a) (h2 : ∀ a i, SL a i → 159 ≤ a) : Fr hi_ hi_ σ σ' := hf.mono h1 h2
theorem Sc_lo {a i : Nat} (h : Sc a i) : a < 159 := by unfold Sc at h; omega
theorem Sc_cj (ht : q_isTw t) (hp : q_isDy p) {a i : Nat} (h : Sc a i) : ¬ cj t p a i := by
  intro z
  have hd : p = 65 ∨ p = 70 := (by decide : ∀ p ∈ q_lDy, p = 65 ∨ p = 70) p hp
  have h1 : ¬ TC t a i := fun z => TC_Sc ht z h
  unfold cj at z
  unfold Sc at h
  rcases z with z | z | z | z | z | z | z | z
  · omega
  · omega
  · omega
  · omega
  · omega
  · exact h1 z
  · omega
  · omega
theorem CJ.sc (hw : WJ D P N hm L un mk tl dy tp) (hJ : CJ σ t p D P N L un mk tl dy tp) (hf : Fr Sc noL σ σ') : CJ σ' t p D P N L un mk tl dy tp := ⟨hJ.1.fr hw.2.2.2.2.2.1.1 hf (fun a i z => Sc_cj hJ.1.1.2.1 hJ.1.2.1.2.1 z) (fun _ _ z => z.elim), hJ.2.fr hf (fun a i z => by unfold Sc at z; omega) (fun _ _ z => z.elim)⟩
theorem MJ.sm (hw : WJ D P N hm L un mk tl dy tp) (hJ : MJ σ D P N L un mk tl dy tp) (hf : Fr Sm noL σ σ') : MJ σ' D P N L un mk tl dy tp := hJ.fr hw hf (fun a i z => by unfold Sm at z; unfold mj; omega) (fun _ _ z => z.elim)
theorem W_house_ok (hs : q_Sh σ) (hw : WJ D P N hm L un mk tl dy tp) (hJ : CJ0 σ t p D P N L un mk tl dy tp) (hq : Q (some (.int (who hm x (D 1)))) σ) : q_Call G (d + 1) 0 0 X_W_house [.ref 0, .int x] σ Q := by
  refine q_ci (by decide +kernel) (Nat.le_of_ble_eq_true rfl) (fun Q hq => ?_) hq
  exact v_W_house_0 hs ⟨t, hJ.1.1, hJ.1.2.1, Tw_familyIn_ok hJ.1.2.1 (by decide +kernel) hs hw.1 hJ.2.2.1.1 (hJ.hom hw) hw.2.2.2.2.1.2.1 ⟨hs, _, rfl, hq⟩⟩
theorem M_house_ok (hs : q_Sh σ) (hw : WJ D P N hm L un mk tl dy tp) (hJ : MJ σ D P N L un mk tl dy tp) (hq : Q (some (.int (who hm x (D 1)))) (Th σ)) : q_Call G (d + 2) 0 0 X_M_house [.ref 159, .int x] σ Q := by
  have h6 := hw.1.F6
  refine q_cii (Pp := fun v σ' => v = who hm x (D 1) ∧ σ' = Th σ) (by decide +kernel) (Nat.le_of_ble_eq_true rfl) (fun Q hq => ?_) (fun v σ' h => by rw [h.1, h.2]; exact hq)
  refine v_M_house_0 hs ?_
  have hs1 : q_Sh (Th σ) := Th_fr.sh hs
  have hJ1 : MJ (Th σ) D P N L un mk tl dy tp := hJ.th hw
  refine up_ind (R := fun k => q_At G X_M_house (d + 2) 0 0 9 [some (.ref 159), some (.int x), some (.int (who hm x k)), some (.int (nI k))] [] (Th σ) Q) (n := D 1) ?_ (fun k hk ih => ?_) 0 (Nat.zero_le _)
  · exact v_M_house_9 hs1 ⟨fun _ => hq _ _ ⟨rfl, rfl⟩, fun c => absurd (by rw [hJ1.1.1.F]; exact Int32.le_refl _) c⟩
  · refine v_M_house_9 hs1 ⟨fun c => by rw [hJ1.1.1.F] at c; exact ge_not c hk (by omega), fun _ => ?_⟩
    have hb := hJ1.hb hw k hk
    rw [Nat.zero_add] at hb
    have h0 := hw.1.2.1
    rw [who] at ih
    rw [nI_1]
    refine M_isHouse_ok hs1 hJ1.1.1 ⟨hs1, _, rfl, fun c => ?_, fun c => ⟨k, by rw [Int32.zero_add], by omega, ?_⟩⟩
    · rw [if_neg (fun e => by rw [← e, isN_y (by omega) hb.2] at c; exact absurd c (by decide))] at ih
      exact ih
    · rw [hb.1]
      exact ih
theorem W_wall_ok (hs : q_Sh σ) (hw : WJ D P N hm L un mk tl dy tp) (hJ : CJ0 σ t p D P N L un mk tl dy tp) (hq : Q (some (.int (a_wall D x y))) σ) : q_Call G (d + 1) 0 0 X_W_wall [.ref 0, .int x, .int y] σ Q := by
  have h0 := hw.1.2.1
  refine q_ci (by decide +kernel) (Nat.le_of_ble_eq_true rfl) (fun Q hq => ?_) hq
  unfold a_wall at hq
  refine v_W_wall_0 hs (W_isHouse_ok hs hJ ⟨hs, _, rfl, fun c => ?_, fun c => ?_⟩)
  · rw [if_pos c] at hq; exact hq
  · rw [if_neg c] at hq
    refine W_isHouse_ok hs hJ ⟨hs, _, rfl, fun c2 => ?_, fun c2 => ?_⟩
    · rw [if_neg c2] at hq
      obtain ⟨a, a1, rfl⟩ := isN_s (by omega) c
      obtain ⟨b, b1, rfl⟩ := isN_s (by omega) c2
      rw [nI_clamp (by omega), nI_clamp (by omega)] at hq
      have h9 : D (8 + (a * 6 + b)) ≤ 9 := hw.1.2.2.2.2.2.2.1 _ (by omega)
      refine ⟨t, hJ.1.1, hJ.1.2.1, a * 6 + b, q_mul6 _ _, by omega, ?_⟩
      rw [hJ.2.2.1.1.2.1 _ (by omega)]
      have e1 : (nI (D (8 + (a * 6 + b))) = 0) ↔ D (8 + (a * 6 + b)) = 0 := by rw [← nI_0]; exact nI_eq (by omega) (by omega)
      simp only [e1]
      exact hq
    · rw [if_pos c2] at hq; exact hq
theorem M_wall_ok (hs : q_Sh σ) (hw : WJ D P N hm L un mk tl dy tp) (hJ : MJ σ D P N L un mk tl dy tp) (hq : Q (some (.int (a_wall D x y))) (Th σ)) : q_Call G (d + 2) 0 0 X_M_wall [.ref 159, .int x, .int y] σ Q := by
  have h0 := hw.1.2.1
  refine q_cii (Pp := fun v σ' => v = a_wall D x y ∧ σ' = Th σ) (by decide +kernel) (Nat.le_of_ble_eq_true rfl) (fun Q hq => ?_) (fun v σ' h => by rw [h.1, h.2]; exact hq)
  replace hq := hq _ _ ⟨rfl, rfl⟩
  unfold a_wall at hq
  have hs1 : q_Sh (Th σ) := Th_fr.sh hs
  have hJ1 : MJ (Th σ) D P N L un mk tl dy tp := hJ.th hw
  refine v_M_wall_0 hs (M_isHouse_ok hs1 hJ1.1.1 ⟨hs1, _, rfl, fun c => ?_, fun c => ?_⟩)
  · rw [if_pos c] at hq; exact hq
  · rw [if_neg c] at hq
    refine M_isHouse_ok hs1 hJ1.1.1 ⟨hs1, _, rfl, fun c2 => ?_, fun c2 => ?_⟩
    · rw [if_pos c2] at hq; exact hq
    · rw [if_neg c2] at hq
      obtain ⟨a, a1, rfl⟩ := isN_s (by omega) c
      obtain ⟨b, b1, rfl⟩ := isN_s (by omega) c2
      rw [nI_clamp (by omega), nI_clamp (by omega)] at hq
      have h9 : D (8 + (a * 6 + b)) ≤ 9 := hw.1.2.2.2.2.2.2.1 _ (by omega)
      have e0 : 8 + 6 * nI a + nI b = nI (8 + (a * 6 + b)) := by rw [q_lit 8, q_lit 6, pk_mul, nI_add, nI_add]; congr 1; omega
      have e2 : q_I (Th σ) 165 (8 + (a * 6 + b)) = nI (D (8 + (a * 6 + b))) := hJ1.1.1.1 _ (by omega) (by omega)
      refine ⟨8 + (a * 6 + b), e0, by omega, fun c3 => ?_, fun c3 => ⟨8 + (a * 6 + b), e0, by omega, ?_⟩⟩
      · rw [e2, if01, le0_iff (by omega)] at c3
        rw [if_pos c3] at hq
        exact hq
      · rw [e2, if01, le0_iff (by omega)] at c3
        rw [if_neg c3] at hq
        rw [e2]
        exact hq
theorem W_owes_ok (hs : q_Sh σ) (hw : WJ D P N hm L un mk tl dy tp) (hJ : CJ0 σ t p D P N L un mk tl dy tp) (hq : Q (some (.int (a_owes D L x y))) σ) : q_Call G (d + 2) 0 0 X_W_owes [.ref 0, .int x, .int y] σ Q := by
  have h6 := hw.1.F6
  refine q_ci (by decide +kernel) (Nat.le_of_ble_eq_true rfl) (fun Q hq => ?_) hq
  unfold a_owes at hq
  refine v_W_owes_0 hs (W_areTwo_ok hs hJ ⟨hs, _, rfl, fun c => ?_, fun c => ?_⟩)
  · rw [if_pos c] at hq; exact hq
  · rw [if_neg c] at hq
    obtain ⟨f, e, a1, a2, a3, rfl, rfl⟩ := twoN_s (by omega) c
    rw [nI_clamp (by omega), nI_clamp (by omega)] at hq
    refine ⟨f * 6 + e, q_mul6 _ _, by omega, ?_⟩
    rw [show q_I σ 18 (f * 6 + e) = _ from hJ.2.2.2.2.1.debt (v := 15) (by omega)]
    exact hq
theorem M_owes_ok (hs : q_Sh σ) (hw : WJ D P N hm L un mk tl dy tp) (hJ : MJ σ D P N L un mk tl dy tp) (hq : Q (some (.int (a_owes D L x y))) (Th σ)) : q_Call G (d + 3) 0 0 X_M_owes [.ref 159, .int x, .int y] σ Q := by
  have h6 := hw.1.F6
  refine q_cii (Pp := fun v σ' => v = a_owes D L x y ∧ σ' = Th σ) (by decide +kernel) (Nat.le_of_ble_eq_true rfl) (fun Q hq => ?_) (fun v σ' h => by rw [h.1, h.2]; exact hq)
  replace hq := hq _ _ ⟨rfl, rfl⟩
  unfold a_owes at hq
  have hs1 : q_Sh (Th σ) := Th_fr.sh hs
  have hJ1 : MJ (Th σ) D P N L un mk tl dy tp := hJ.th hw
  refine v_M_owes_0 hs (M_areTwo_ok hs1 hJ1.1.1 ⟨hs1, _, rfl, fun c => ?_, fun c => ?_⟩)
  · rw [if_pos c] at hq; exact hq
  · rw [if_neg c] at hq
    obtain ⟨f, e, a1, a2, a3, rfl, rfl⟩ := twoN_s (by omega) c
    rw [nI_clamp (by omega), nI_clamp (by omega)] at hq
    refine ⟨12 + (f * 6 + e), by rw [q_lit 12, q_lit 6, pk_mul, nI_add, nI_add]; congr 1; omega, by omega, ?_⟩
    have := hJ1.2.2.1 (12 + (f * 6 + e)) (by omega)
    rw [Nat.zero_add] at this
    rw [this]
    exact hq
theorem W_broken_ok (hs : q_Sh σ) (hw : WJ D P N hm L un mk tl dy tp) (hJ : CJ0 σ t p D P N L un mk tl dy tp) (hq : Q (some (.int (brk D hm))) σ) : q_Call G (d + 4) 0 0 X_W_broken [.ref 0] σ Q := by
  refine q_ci (by decide +kernel) (Nat.le_of_ble_eq_true rfl) (fun Q hq => ?_) hq
  refine v_W_broken_0 hs ⟨t, hJ.1.1, hJ.1.2.1, Tw_pairs_ok (d := d) hJ.1.2.1 (by decide +kernel) hs hw.1 hJ.2.2.1.1 (hJ.hom hw) ⟨hs, _, rfl, ?_⟩⟩
  refine Tw_broken_ok hJ.1.2.1 hs hw.1 hJ.2.2.1.1 ⟨hs, _, rfl, ?_⟩
  rw [brkm_prs hw.1 (fun f hf => (hw.2.2.2.2.1.1 f hf).2)]
  exact hq
theorem M_broken_ok' (hs : q_Sh σ) (hw : WJ D P N hm L un mk tl dy tp) (hJ : MJ σ D P N L un mk tl dy tp) (hq : Q (some (.int (brk D hm))) (Th σ)) : q_Call G (d + 2) 0 0 X_M_broken [.ref 159] σ Q := by
  refine q_cii (Pp := fun v σ' => v = brk D hm ∧ σ' = Th σ) (by decide +kernel) (Nat.le_of_ble_eq_true rfl) (fun Q hq => ?_) (fun v σ' h => by rw [h.1, h.2]; exact hq)
  have hs1 : q_Sh (Th σ) := Th_fr.sh hs
  have hJ1 : MJ (Th σ) D P N L un mk tl dy tp := hJ.th hw
  exact v_M_broken_0 hs (M_broken_ok (b := 0) hs1 hw.1 hJ1.1.1 (hJ1.hb hw) (by decide) ⟨hs1, _, rfl, hq _ _ ⟨rfl, rfl⟩⟩)
theorem W_family_ok (hs : q_Sh σ) (hw : WJ D P N hm L un mk tl dy tp) (hJ : CJ σ t p D P N L un mk tl dy tp) (hq : ∀ σ', Fr lo_ lo_ σ σ' → CJ σ' t p D P N L un mk tl dy tp → Q (some (.int (a_family D hm P L x y))) σ') : q_Call G (d + 4) 0 0 X_W_family [.ref 0, .int x, .int y] σ Q := by
  have h6 := hw.1.F6
  refine q_cii (Pp := fun v σ' => v = a_family D hm P L x y ∧ Fr lo_ lo_ σ σ' ∧ CJ σ' t p D P N L un mk tl dy tp) (by decide +kernel) (Nat.le_of_ble_eq_true rfl) (fun Q hq => ?_) (fun v σ' h => by rw [h.1]; exact hq σ' h.2.1 h.2.2)
  have hs0 : ∀ v, v = a_family D hm P L x y → Q (some (.int v)) σ := fun v e => hq v σ ⟨e, Fr.rf, hJ⟩
  refine v_W_family_0 hs (W_isFamily_ok hs hJ.1 ⟨hs, _, rfl, fun c => ?_, fun c => hs0 _ (by rw [a_family, if_pos c])⟩)
  obtain ⟨f, a1, rfl⟩ := isN_s (by omega) c
  have e0 : a_family D hm P L (nI f) y = a_fam D hm P L f y.toInt := by rw [a_family, if_neg c, nI_clamp (by omega)]
  rw [e0] at hs0 hq
  have hT := hJ.1.2.2.1
  have ht := hJ.1.1.2.1
  have hh := hJ.1.hom hw
  refine ⟨fun k => hs0 _ ?_, fun k => ⟨t, hJ.1.1.1, ht, f, rfl, by omega, hs0 _ ?_⟩, fun k => ⟨t, hJ.1.1.1, ht, Tw_loud_ok (d := d + 2) ht hs hw.1 hT.1 a1 ⟨hs, _, rfl, hs0 _ ?_⟩⟩, fun k => ⟨t, hJ.1.1.1, ht, Tw_hear_ok (d := d + 2) ht hs hw.1 hT.1 a1 ⟨hs, _, rfl, hs0 _ ?_⟩⟩, fun k => ⟨f, rfl, by omega, hs0 _ ?_⟩, fun k => ⟨f, rfl, by omega, hs0 _ ?_⟩, fun k => ⟨t, hJ.1.1.1, ht, Tw_nbits_ok (d := d) ht (by decide +kernel) hs hw.1 hT.1 hh a1 ⟨hs, _, rfl, hs0 _ ?_⟩⟩, fun k => ⟨t, hJ.1.1.1, ht, Tw_felt_ok (d := d + 1) ht (by decide +kernel) hs hw.1 hT hh a1 ⟨hs, _, rfl, hs0 _ ?_⟩⟩, fun k => ⟨t, hJ.1.1.1, ht, Tw_joy_ok (d := d) ht (by decide +kernel) hs hw.1 hw.2.1 hT hh a1 (fun σ' fr => ⟨fr.sh hs, _, rfl, hq _ _ ⟨?_, fr.lo (fun a i z => Sc_lo z) (fun _ _ z => z.elim), hJ.sc hw fr⟩⟩)⟩⟩
  · unfold a_fam
    rw [if_neg (by omega), if_neg (by omega), if_neg (by omega), if_neg (by omega), if_neg (by omega), if_neg (by omega), if_neg (by omega), if_neg (by omega)]
  · rw [k]; exact (hT.1.2.2.1 f a1).1
  · rw [k]; rfl
  · rw [k]; rfl
  · rw [k]; exact hJ.1.2.2.2.2.1.coin (v := 15) (by omega)
  · rw [k]; exact hJ.1.2.2.2.2.1.home (v := 15) (by omega)
  · rw [k]; rfl
  · rw [k]; rfl
  · rw [k]
    exact ge0_lt
theorem M_family_ok (hs : q_Sh σ) (hw : WJ D P N hm L un mk tl dy tp) (hJ : MJ σ D P N L un mk tl dy tp) (hq : ∀ σ', Fr hi_ hi_ σ σ' → MJ σ' D P N L un mk tl dy tp → Q (some (.int (a_family D hm P L x y))) σ') : q_Call G (d + 3) 0 0 X_M_family [.ref 159, .int x, .int y] σ Q := by
  have h6 := hw.1.F6
  refine q_cii (Pp := fun v σ' => v = a_family D hm P L x y ∧ Fr hi_ hi_ σ σ' ∧ MJ σ' D P N L un mk tl dy tp) (by decide +kernel) (Nat.le_of_ble_eq_true rfl) (fun Q hq => ?_) (fun v σ' h => by rw [h.1]; exact hq σ' h.2.1 h.2.2)
  have hs1 : q_Sh (Th σ) := Th_fr.sh hs
  have hJ1 : MJ (Th σ) D P N L un mk tl dy tp := hJ.th hw
  have hs0 : ∀ v, v = a_family D hm P L x y → Q (some (.int v)) (Th σ) := fun v e => hq v (Th σ) ⟨e, Th_fr, hJ1⟩
  refine v_M_family_0 hs (M_isFamily_ok hs1 hJ1.1.1 ⟨hs1, _, rfl, fun c => hs0 _ (by rw [a_family, if_pos c]), fun c => ?_⟩)
  obtain ⟨f, a1, rfl⟩ := isN_s (by omega) c
  have e0 : a_family D hm P L (nI f) y = a_fam D hm P L f y.toInt := by rw [a_family, if_neg c, nI_clamp (by omega)]
  rw [e0] at hs0 hq
  have hB := hJ1.hb hw
  have hT := hJ1.1
  have hL := hJ1.2.2.1
  refine M_within_ok hs1 ⟨hs1, _, rfl, fun c2 => ?_, fun c2 => hs0 _ ?_⟩
  · obtain ⟨k, k1, k2, rfl⟩ := inN_s (lo := 0) (hi := 7) (by decide) (by decide) c2
    have ek : (nI k).toInt = (k : Int) := nI_toInt (by omega)
    refine ⟨fun h => ?_, fun k => M_loud_ok (d := d + 1) hs1 hw.1 hT.1 a1 ⟨hs1, _, rfl, hs0 _ ?_⟩, fun k => M_hear_ok (d := d + 1) hs1 hw.1 hT.1 a1 ⟨hs1, _, rfl, hs0 _ ?_⟩, fun k => ⟨6 + f, nI_add _ _, by omega, hs0 _ ?_⟩, fun k => ⟨f, Int32.zero_add _, by omega, hs0 _ ?_⟩, fun k => M_near_ok (d := d + 1) hs1 hw.1 hT.1 hB a1 ⟨hs1, _, rfl, hs0 _ ?_⟩, fun k => M_felt_ok (b := 0) (d := d + 1) hs1 hw.1 hT hB (by decide) a1 ⟨hs1, _, rfl, hs0 _ ?_⟩, fun k => M_joy_ok (b := 0) (d := d) hs1 hw.1 hw.2.1 hT hB (by decide) a1 (fun σ' fr => ⟨fr.sh hs1, _, rfl, hq _ _ ⟨?_, Th_fr.tr (fr.hi (fun a i z => by unfold Sm at z; omega) (fun _ _ z => z.elim)), hJ1.sm hw fr⟩⟩)⟩
    · rw [ek] at h hs0
      have hk : k = 0 := by omega
      subst hk
      exact M_fam_ok (k := 0) hs1 hw.1 hT.1 a1 (by decide) ⟨hs1, _, rfl, hs0 _ rfl⟩
    · rw [k]; rfl
    · rw [k]; rfl
    · rw [k]
      have := hL (6 + f) (by omega)
      rwa [Nat.zero_add] at this
    · rw [k]
      have := hL f (by omega)
      rwa [Nat.zero_add] at this
    · rw [k]; rfl
    · rw [k]; rfl
    · rw [k]
      exact ge0_lt
  · have : y.toInt < 0 ∨ 7 < y.toInt := by
      unfold inN at c2
      by_cases q1 : y < 0
      · rw [Int32.lt_iff_toInt_lt] at q1
        exact Or.inl q1
      · rw [if_neg q1] at c2
        by_cases q2 : 7 < y
        · rw [Int32.lt_iff_toInt_lt] at q2
          exact Or.inr q2
        · rw [if_neg q2] at c2
          exact absurd c2 (by decide)
    unfold a_fam
    rw [if_neg (by omega), if_neg (by omega), if_neg (by omega), if_neg (by omega), if_neg (by omega), if_neg (by omega), if_neg (by omega), if_neg (by omega)]
end ASK1
