theorem isLi_out {v : Nat} (h : q_isLi v) : (15 ≤ v ∧ v + 3 ≤ 22) ∨ (75 ≤ v ∧ v + 3 ≤ 157) := (by decide : ∀ v ∈ q_lLi, (15 ≤ v ∧ v + 3 ≤ 22) ∨ (75 ≤ v ∧ v + 3 ≤ 157)) v h
def fT (a : Nat) : Prop := a < 27 ∨ 64 < a
theorem TC_in {t a i : Nat} (ht : q_isTw t) (h : TC t a i) : ¬ fT a := by
  have := isTw_cases ht
  unfold TC at h
  unfold fT
  omega
theorem CT0.fr {σ σ' : q_S} {t : Nat} {D : Nat → Nat} {P : Nat → List Int32} {SI SL : Nat → Nat → Prop} (ht : q_isTw t) (h : CT0 σ t D P) (hf : Fr SI SL σ σ') (hI : ∀ a i, SI a i → fT a) (hL : ∀ a i, SL a i → fT a) : CT0 σ' t D P := h.keep (fun a i hc => hf.2.2.1 a i (fun z => TC_in ht hc (hI a i z))) (fun i => hf.2.2.2 _ i (fun z => by have := hL _ _ z; have := isTw_cases ht; unfold fT at *; omega))
theorem CT.fr {σ σ' : q_S} {t : Nat} {D : Nat → Nat} {P : Nat → List Int32} {SI SL : Nat → Nat → Prop} (ht : q_isTw t) (h : CT σ t D P) (hf : Fr SI SL σ σ') (hI : ∀ a i, SI a i → fT a) (hL : ∀ a i, SL a i → fT a) : CT σ' t D P := h.keep (fun a i hc => hf.2.2.1 a i (fun z => TC_in ht hc (hI a i z))) (fun i => hf.2.2.2 _ i (fun z => by have := hL _ _ z; have := isTw_cases ht; unfold fT at *; omega))
theorem upd_ext {L : Nat → Int32} {i : Nat} {x : Int32} (h : x = L i) : ∀ j, j < 50 → upd L i x j = L j := fun j _ => by
  unfold upd
  split
  · next c => subst c; exact h
  · rfl
theorem upd_at (L : Nat → Int32) (i : Nat) (x : Int32) : upd L i x i = x := by simp [upd]
theorem upd_ne {L : Nat → Int32} {i j : Nat} {x : Int32} (h : j ≠ i) : upd L i x j = L j := by simp [upd, h]
theorem lpd_eq {D hm : Nat → Nat} {L L' : Nat → Int32} {f e : Nat} (h : L (12 + (f * 6 + e)) = L' (12 + (f * 6 + e))) : lpd D hm L f e = lpd D hm L' f e := by unfold lpd; rw [h]
def SRd (v : Nat) : Nat → Nat → Prop := fun a _ => (v ≤ a ∧ a ≤ v + 3) ∨ a = 13
theorem hcp_at {r : Nat → Nat} {L : Nat → Int32} {i : Nat} : ∀ n, i < n → hcp r n L i = nI (r i)
  | 0, h => absurd h (Nat.not_lt_zero _)
  | n + 1, h => by
    rw [hcp]
    by_cases c : i = n
    · subst c; exact upd_at _ _ _
    · rw [upd_ne c]; exact hcp_at n (by omega)
theorem hcp_ne {r : Nat → Nat} {L : Nat → Int32} {i : Nat} : ∀ n, n ≤ i → hcp r n L i = L i
  | 0, _ => rfl
  | n + 1, h => by rw [hcp, upd_ne (by omega)]; exact hcp_ne n (by omega)
theorem rdL_home {D hm : Nat → Nat} {L : Nat → Int32} {n i : Nat} (hD : WfD D) (hi : i < D 1) : rdL D hm L n i = nI (rdR D n i) := by
  have := hD.F6
  rw [rdL, upd_ne (by omega), upd_ne (by omega), hcp_at _ hi]
theorem rdL_coin {D hm : Nat → Nat} {L : Nat → Int32} {n i : Nat} (hD : WfD D) (h1 : D 1 ≤ i) (h2 : i < 12) : rdL D hm L n i = L i := by
  rw [rdL, upd_ne (by omega), upd_ne (by omega), hcp_ne _ h1, rlF_home h2]
theorem rdR_ok {D : Nat → Nat} (n : Nat) : okR (D 0) (rdR D n) := by
  refine shf_ok (H := D 0) _ _ _ ?_ (okR_id _)
  omega
theorem WL_rd {D hm : Nat → Nat} {L : Nat → Int32} {n : Nat} (hD : WfD D) (h : WL D hm L) : WL D (rdR D n) (rdL D hm L n) := by
  have h6 := hD.F6
  have hF := hD.1
  have := rdR_ok (D := D) n
  refine ⟨fun f hf => ⟨rdL_home hD hf, this.1 f (by omega)⟩, fun f e hf he => this.2 f e (by omega) (by omega), fun i hi h1 => ?_⟩
  rw [rdL_coin hD (by omega) (by omega)]
  exact h.2.2 i hi h1
section DRAW2
variable {G : q_G} {d : Nat} {σ : q_S} {Q : Option Value → q_S → Prop} {t v b f e n : Nat} {D hm : Nat → Nat} {P : Nat → List Int32} {L : Nat → Int32} {c : Int32}
theorem Li_redraw_ok (ht : q_isTw t) (hv : q_isLi v) (hs : q_Sh σ) (hD : WfD D) (hT : CT0 σ t D P) (hL : CL σ v L) (hw : ∀ f, f < D 1 → L f = nI (hm f) ∧ hm f < D 0) (hn : q_L σ 12 1 = lN n) (hl : n < 2147483648) (hq : ∀ σ', Fr (SRd v) L12 σ σ' → CL σ' v (rdL D hm L n) → q_L σ' 12 1 = lN (rdN D n) → Q (some (.int (rdG D hm L))) σ') : q_Call G (d + 4) 0 0 X_Li_redraw [.ref v, .ref t, .ref 12] σ Q := by
  have h6 := hD.F6
  have hH := hD.2.1
  have ho := isLi_out hv
  refine q_cii (Pp := fun x σ' => x = rdG D hm L ∧ Fr (SRd v) L12 σ σ' ∧ CL σ' v (rdL D hm L n) ∧ q_L σ' 12 1 = lN (rdN D n)) (by decide +kernel) (Nat.le_of_ble_eq_true rfl) (fun Q hq => ?_) (fun x σ' h => by rw [h.1]; exact hq σ' h.2.1 h.2.2.1 h.2.2.2)
  have kT : ∀ σ1, Fr (SRd v) L12 σ σ1 → CT0 σ1 t D P := fun σ1 fr => hT.fr ht fr (fun a i h => by unfold SRd at h; unfold fT; omega) (fun a i h => by unfold L12 at h; unfold fT; omega)
  refine v_Li_redraw_0 hv ht hs ?_
  -- the new homes
  have loop3 := up_ind (R := fun k => ∀ σ1, Fr (SRd v) L12 σ σ1 → CL σ1 v (hcp (rdR D n) k (rlF D hm (D 1) (0, L)).2) → (∀ j, j < D 0 → q_I σ1 13 j = nI (rdR D n j)) → q_L σ1 12 1 = lN (rdN D n) → q_At G X_Li_redraw (d + 4) 0 0 83 [some (.ref v), some (.ref t), some (.ref 12), some (.int (rdG D hm L)), some (.int (nI k)), none, none] [] σ1 Q) (n := D 1) (fun σ1 fr h1 h2 h3 => ?_) (fun k hk ih σ1 fr h1 h2 h3 => ?_)
  rotate_left
  · refine v_Li_redraw_83 hv ht (fr.sh hs) ⟨fun _ => hq _ _ ⟨rfl, fr.tr (Fr.tr (Fr.setI (Or.inl ⟨by omega, by omega⟩)) (Fr.setI (Or.inl ⟨by omega, by omega⟩))), ?_, h3⟩, fun c => absurd (by rw [(kT σ1 fr).1.2.1]; exact Int32.le_refl _) c⟩
    have g1 := h1.sDr (x := hcp (rdR D n) (D 1) (rlF D hm (D 1) (0, L)).2 48 + 1)
    rw [h1.dr, g1.lp]
    exact g1.sLp
  · refine v_Li_redraw_83 hv ht (fr.sh hs) ⟨fun c => by rw [(kT σ1 fr).1.2.1] at c; exact ge_not c hk (by omega), fun _ => ⟨k, rfl, by omega, k, rfl, by omega, ?_⟩⟩
    rw [nI_1, h2 k (by have := hD.1; omega)]
    refine ih _ (fr.tr (Fr.setI (Or.inl ⟨by omega, by omega⟩))) (h1.sHome (by omega)) (fun j hj => ?_) h3
    rw [q_I_ne (by omega)]
    exact h2 j hj
  -- what lapses
  have loop1 := up_ind (R := fun k => ∀ σ1, Fr (SRd v) L12 σ σ1 → CL σ1 v (rlF D hm k (0, L)).2 → q_L σ1 12 1 = lN n → q_At G X_Li_redraw (d + 4) 0 0 5 [some (.ref v), some (.ref t), some (.ref 12), some (.int (rlF D hm k (0, L)).1), some (.int (nI k)), none, none] [] σ1 Q) (n := D 1) (fun σ1 fr h1 h3 => ?_) (fun k hk ih σ1 fr h1 h3 => ?_)
  · exact loop1 0 (Nat.zero_le _) σ Fr.rf hL hn
  · refine v_Li_redraw_5 ht (fr.sh hs) ⟨fun _ => ?_, fun c => absurd (by rw [(kT σ1 fr).1.2.1]; exact Int32.le_refl _) c⟩
    rw [(kT σ1 fr).1.1]
    refine Di_shuffle_ok (fr.sh hs) h3 hl hH (fun σ2 f2 g1 g2 => ⟨f2.sh (fr.sh hs), rfl, ?_⟩)
    refine loop3 0 (Nat.zero_le _) σ2 (fr.tr (f2.mono (fun a i h => Or.inr h) (fun _ _ h => h))) (h1.keep (fun a i a1 a2 => f2.2.2.1 a i (by unfold S13; omega))) g1 g2
  · refine v_Li_redraw_5 ht (fr.sh hs) ⟨fun c => by rw [(kT σ1 fr).1.2.1] at c; exact ge_not c hk (by omega), fun _ => ?_⟩
    refine up_ind (R := fun j => ∀ σ1, Fr (SRd v) L12 σ σ1 → CL σ1 v (rlE D hm k j (rlF D hm k (0, L))).2 → q_L σ1 12 1 = lN n → q_At G X_Li_redraw (d + 4) 0 0 17 [some (.ref v), some (.ref t), some (.ref 12), some (.int (rlE D hm k j (rlF D hm k (0, L))).1), some (.int (nI k)), some (.int (nI j)), none] [] σ1 Q) (n := D 1) (fun σ1 fr h1 h3 => ?_) (fun j hj ih2 σ1 fr h1 h3 => ?_) 0 (Nat.zero_le _) σ1 fr h1 h3
    · refine v_Li_redraw_17 hv ht (fr.sh hs) ⟨fun _ => ?_, fun c => absurd (by rw [(kT σ1 fr).1.2.1]; exact Int32.le_refl _) c⟩
      rw [nI_1]
      exact ih σ1 fr h1 h3
    · refine v_Li_redraw_17 hv ht (fr.sh hs) ⟨fun c => by rw [(kT σ1 fr).1.2.1] at c; exact ge_not c hj (by omega), fun _ => ?_⟩
      refine Li_lapsing_ok (d := d) ht hv (fr.sh hs) hD (kT σ1 fr) h1 (hm := hm) (fun f hf => ?_) hk hj ⟨fr.sh hs, _, rfl, k * 6 + j, q_mul6 _ _, by omega, k * 6 + j, q_mul6 _ _, by omega, ?_⟩
      · rw [rlE_home (by omega), rlF_home (by omega)]
        exact hw f hf
      · rw [nI_1, h1.debt (by omega)]
        exact ih2 _ (fr.tr (Fr.setI (Or.inl ⟨by omega, by omega⟩))) (h1.sDebt (by omega)) h3
def SMd (b : Nat) : Nat → Nat → Prop := fun a i => (a = 175 ∧ b ≤ i ∧ i < b + 50) ∨ a = 178
theorem MT0.fr {σ σ' : q_S} {SI SL : Nat → Nat → Prop} (h : MT0 σ D P) (hf : Fr SI SL σ σ') (hI : ∀ a i, SI a i → a ≠ 165 ∧ a ≠ 166 ∧ a ≠ 167) : MT0 σ' D P := h.keep (fun i _ => hf.2.2.1 _ _ (fun z => (hI _ _ z).1 rfl)) (fun i => hf.2.2.1 _ _ (fun z => (hI _ _ z).2.1 rfl)) (fun i => hf.2.2.1 _ _ (fun z => (hI _ _ z).2.2 rfl))
theorem MT.fr {σ σ' : q_S} {SI SL : Nat → Nat → Prop} (h : MT σ D P) (hf : Fr SI SL σ σ') (hI : ∀ a i, SI a i → a ≠ 165 ∧ a ≠ 166 ∧ a ≠ 167 ∧ a ≠ 177) : MT σ' D P := h.keep (fun i _ => hf.2.2.1 _ _ (fun z => (hI _ _ z).1 rfl)) (fun i => hf.2.2.1 _ _ (fun z => (hI _ _ z).2.1 rfl)) (fun i => hf.2.2.1 _ _ (fun z => (hI _ _ z).2.2.1 rfl)) (fun i => hf.2.2.1 _ _ (fun z => (hI _ _ z).2.2.2 rfl))
theorem M_draws_ok (hs : q_Sh σ) (hD : WfD D) (hT : MT0 σ D P) (hL : ML σ b L) (hw : ∀ f, f < D 1 → L f = nI (hm f) ∧ hm f < D 0) (hb : b + 50 ≤ 1886) (hn : q_L σ 159 28 = lN n) (hl : n < 2147483648) (hq : ∀ σ', Fr (SMd b) L159 σ σ' → ML σ' b (rdL D hm L n) → q_L σ' 159 28 = lN (rdN D n) → Q (some (.int (rdG D hm L))) σ') : q_Call G (d + 2) 0 0 X_M_draws [.ref 159, .int (nI b)] σ Q := by
  have h6 := hD.F6
  have hH := hD.2.1
  refine q_cii (Pp := fun x σ' => x = rdG D hm L ∧ Fr (SMd b) L159 σ σ' ∧ ML σ' b (rdL D hm L n) ∧ q_L σ' 159 28 = lN (rdN D n)) (by decide +kernel) (Nat.le_of_ble_eq_true rfl) (fun Q hq => ?_) (fun x σ' h => by rw [h.1]; exact hq σ' h.2.1 h.2.2.1 h.2.2.2)
  have kT : ∀ σ1, Fr (SMd b) L159 σ σ1 → MT0 σ1 D P := fun σ1 fr => hT.fr fr (fun a i h => by unfold SMd at h; omega)
  refine v_M_draws_0 hs ?_
  have loop3 := up_ind (R := fun k => ∀ σ1, Fr (SMd b) L159 σ σ1 → ML σ1 b (hcp (rdR D n) k (rlF D hm (D 1) (0, L)).2) → (∀ j, j < D 0 → q_I σ1 178 j = nI (rdR D n j)) → q_L σ1 159 28 = lN (rdN D n) → q_At G X_M_draws (d + 2) 0 0 166 [some (.ref 159), some (.int (nI b)), some (.int (rdG D hm L)), some (.int (nI k)), none, none] [] σ1 Q) (n := D 1) (fun σ1 fr h1 h2 h3 => ?_) (fun k hk ih σ1 fr h1 h2 h3 => ?_)
  rotate_left
  · have e8 : nI b + 48 = nI (b + 48) := nI_add b 48
    have e9 : nI b + 49 = nI (b + 49) := nI_add b 49
    refine v_M_draws_166 (fr.sh hs) ⟨fun _ => ⟨b + 48, e8, by omega, b + 48, e8, by omega, b + 49, e9, by omega, b + 49, e9, by omega, hq _ _ ⟨rfl, fr.tr (Fr.tr (Fr.setI (Or.inl ⟨rfl, by omega, by omega⟩)) (Fr.setI (Or.inl ⟨rfl, by omega, by omega⟩))), ?_, h3⟩⟩, fun c => absurd (by rw [(kT σ1 fr).F]; exact Int32.le_refl _) c⟩
    have g1 := h1.set (i := 48) (x := hcp (rdR D n) (D 1) (rlF D hm (D 1) (0, L)).2 48 + 1)
    rw [h1 48 (by decide), g1 49 (by decide)]
    exact g1.set
  · refine v_M_draws_166 (fr.sh hs) ⟨fun c => by rw [(kT σ1 fr).F] at c; exact ge_not c hk (by omega), fun _ => ⟨k, rfl, by omega, b + k, by rw [Int32.add_zero, nI_add], by omega, ?_⟩⟩
    rw [nI_1, h2 k (by have := hD.1; omega)]
    refine ih _ (fr.tr (Fr.setI (Or.inl ⟨rfl, by omega, by omega⟩))) h1.set (fun j hj => ?_) h3
    rw [q_I_ne (by omega)]
    exact h2 j hj
  have loop2 : ∀ (k n1 : Nat) (r : Nat → Nat) (σ1 : q_S), (k < D 0 ∨ k = 0) → n1 < 2147483648 → okR (D 0) r → Fr (SMd b) L159 σ σ1 → ML σ1 b (rlF D hm (D 1) (0, L)).2 → q_L σ1 159 28 = lN n1 → (∀ j, j < D 0 → q_I σ1 178 j = nI (r j)) → shf k n1 r = shf (D 0 - 1) n (fun k => k) → q_At G X_M_draws (d + 2) 0 0 115 [some (.ref 159), some (.int (nI b)), some (.int (rdG D hm L)), some (.int (nI k)), none, none] [] σ1 Q := by
    intro k
    induction k with
    | zero =>
      intro n1 r σ1 _ _ _ fr hL1 h1 h2 h3
      refine v_M_draws_115 (fr.sh hs) ⟨fun _ => ?_, fun c => absurd (by decide) c⟩
      refine loop3 0 (Nat.zero_le _) σ1 fr hL1 (fun j hj => ?_) ?_
      · rw [h2 j hj, rdR, ← h3]; rfl
      · rw [h1, rdN, ← h3]; rfl
    | succ k ih =>
      intro n1 r σ1 hk hn1 hr fr hL1 h1 h2 h3
      have hk : k + 1 < D 0 := by omega
      refine v_M_draws_115 (fr.sh hs) ⟨fun c => by rw [le0_iff (by omega)] at c; omega, fun _ => ?_⟩
      have hb2 : bN (rN n1) (k + 2) < k + 2 := bN_lt _ (by omega)
      rw [nI_1]
      refine M_below_ok (fr.sh hs) h1 hn1 (by omega) (by omega) ⟨fr.sh hs, _, rfl, k + 1, rfl, by omega, bN (rN n1) (k + 2), rfl, by omega, k + 1, rfl, by omega, bN (rN n1) (k + 2), rfl, by omega, ?_⟩
      rw [m1I]
      refine ih (rN n1) (swpN r (k + 1) (bN (rN n1) (k + 2))) _ (by omega) (rN_lt n1) (swpN_ok hr hk (by omega)) (fr.tr (Fr.tr (Fr.setL ⟨rfl, rfl⟩) (Fr.tr (Fr.setI (Or.inr rfl)) (Fr.setI (Or.inr rfl))))) ?_ q_L_eq ?_ h3
      · exact hL1.keep (fun i _ _ => by rw [q_I_ne (by omega), q_I_ne (by omega)]; rfl)
      · exact swp_row (σ := q_setL σ1 159 28 (lN (rN n1))) h2 hk (by omega)
  have loopR := up_ind (R := fun k => ∀ σ1, Fr (SMd b) L159 σ σ1 → ML σ1 b (rlF D hm (D 1) (0, L)).2 → q_L σ1 159 28 = lN n → (∀ j, j < k → q_I σ1 178 j = nI j) → q_At G X_M_draws (d + 2) 0 0 87 [some (.ref 159), some (.int (nI b)), some (.int (rdG D hm L)), some (.int (nI k)), none, none] [] σ1 Q) (n := D 0) (fun σ1 fr h1 h3 h4 => ?_) (fun k hk ih σ1 fr h1 h3 h4 => ?_)
  rotate_left
  · refine v_M_draws_87 (fr.sh hs) ⟨fun _ => ?_, fun c => absurd (by rw [(kT σ1 fr).H]; exact Int32.le_refl _) c⟩
    rw [(kT σ1 fr).H]
    rcases Nat.eq_zero_or_pos (D 0) with z | z
    · rw [z]
      have hF : D 1 = 0 := by have := hD.1; omega
      refine v_M_draws_115 (fr.sh hs) ⟨fun _ => ?_, fun c => absurd (by decide) c⟩
      refine loop3 0 (Nat.zero_le _) σ1 fr h1 (fun j hj => by omega) ?_
      rw [h3, rdN, z]; rfl
    · rw [show nI (D 0) - 1 = nI (D 0 - 1) by rw [show D 0 = D 0 - 1 + 1 by omega, nI_pred]; rfl]
      exact loop2 (D 0 - 1) n (fun k => k) σ1 (by omega) hl (okR_id _) fr h1 h3 h4 rfl
  · refine v_M_draws_87 (fr.sh hs) ⟨fun c => by rw [(kT σ1 fr).H] at c; exact ge_not c hk (by omega), fun _ => ⟨k, rfl, by omega, ?_⟩⟩
    rw [nI_1]
    refine ih _ (fr.tr (Fr.setI (Or.inr rfl))) (h1.keep (fun i _ _ => q_I_ne (by omega))) h3 (fun j hj => ?_)
    by_cases c : j = k
    · subst c; exact q_I_eq
    · rw [q_I_ne (by omega)]; exact h4 j (by omega)
  have loop1 := up_ind (R := fun k => ∀ σ1, Fr (SMd b) L159 σ σ1 → ML σ1 b (rlF D hm k (0, L)).2 → q_L σ1 159 28 = lN n → q_At G X_M_draws (d + 2) 0 0 4 [some (.ref 159), some (.int (nI b)), some (.int (rlF D hm k (0, L)).1), some (.int (nI k)), none, none] [] σ1 Q) (n := D 1) (fun σ1 fr h1 h3 => ?_) (fun k hk ih σ1 fr h1 h3 => ?_)
  · exact loop1 0 (Nat.zero_le _) σ Fr.rf hL hn
  · refine v_M_draws_4 (fr.sh hs) ⟨fun _ => ?_, fun c => absurd (by rw [(kT σ1 fr).F]; exact Int32.le_refl _) c⟩
    exact loopR 0 (Nat.zero_le _) σ1 fr h1 h3 (fun j hj => absurd hj (Nat.not_lt_zero j))
  · refine v_M_draws_4 (fr.sh hs) ⟨fun c => by rw [(kT σ1 fr).F] at c; exact ge_not c hk (by omega), fun _ => ?_⟩
    refine up_ind (R := fun j => ∀ σ1, Fr (SMd b) L159 σ σ1 → ML σ1 b (rlE D hm k j (rlF D hm k (0, L))).2 → q_L σ1 159 28 = lN n → q_At G X_M_draws (d + 2) 0 0 15 [some (.ref 159), some (.int (nI b)), some (.int (rlE D hm k j (rlF D hm k (0, L))).1), some (.int (nI k)), some (.int (nI j)), none] [] σ1 Q) (n := D 1) (fun σ1 fr h1 h3 => ?_) (fun j hj ih2 σ1 fr h1 h3 => ?_) 0 (Nat.zero_le _) σ1 fr h1 h3
    · refine v_M_draws_15 (fr.sh hs) ⟨fun _ => ?_, fun c => absurd (by rw [(kT σ1 fr).F]; exact Int32.le_refl _) c⟩
      rw [nI_1]
      exact ih σ1 fr h1 h3
    · refine v_M_draws_15 (fr.sh hs) ⟨fun c => by rw [(kT σ1 fr).F] at c; exact ge_not c hj (by omega), fun _ => ?_⟩
      have hw1 : ∀ f, f < D 1 → (rlE D hm k j (rlF D hm k (0, L))).2 f = nI (hm f) ∧ hm f < D 0 := fun f hf => by
        rw [rlE_home (by omega), rlF_home (by omega)]
        exact hw f hf
      rw [rlE] at ih2
      refine M_lapses_ok (d := d) (fr.sh hs) hD (kT σ1 fr) (h1.HB hD hw1) hb hk hj ⟨fr.sh hs, _, rfl, fun c => ?_, fun c => ?_⟩
      · have z : lpd D hm (rlE D hm k j (rlF D hm k (0, L))).2 k j = 0 := by
          unfold lpd
          by_cases c1 : D (44 + 4 * j) = 3
          · rw [if_pos c1]
          · rw [if_neg c1] at c ⊢
            rw [if01] at c
            rw [if_pos c]
        rw [z] at ih2
        rw [nI_1]
        have := ih2 σ1 fr (h1.ext (fun i hi => (upd_ext (by rw [Int32.sub_zero]) i hi).symm)) h3
        rw [Int32.add_zero] at this
        exact this
      · have z : lpd D hm (rlE D hm k j (rlF D hm k (0, L))).2 k j = (rlE D hm k j (rlF D hm k (0, L))).2 (12 + (k * 6 + j)) := by
          unfold lpd
          by_cases c1 : D (44 + 4 * j) = 3
          · rw [if_pos c1] at c; exact absurd rfl c
          · rw [if_neg c1] at c ⊢
            rw [if01] at c
            rw [if_neg c]
        rw [z, Int32.sub_self] at ih2
        have e1 : nI b + 12 + 6 * nI k + nI j = nI (b + (12 + (k * 6 + j))) := by rw [q_lit 12, q_lit 6, pk_mul, nI_add, nI_add, nI_add]; congr 1; omega
        refine ⟨b + (12 + (k * 6 + j)), e1, by omega, b + (12 + (k * 6 + j)), e1, by omega, ?_⟩
        rw [nI_1, h1 _ (by omega)]
        exact ih2 _ (fr.tr (Fr.setI (Or.inl ⟨rfl, by omega, by omega⟩))) h1.set h3
end DRAW2
