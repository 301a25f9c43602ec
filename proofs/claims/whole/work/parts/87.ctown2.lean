def SRd_ (t : Nat) : Nat → Nat → Prop := fun a i => a = 3 ∨ a = 4 ∨ (t ≤ a ∧ a ≤ t + 18) ∨ Sc a i
section CTOWN2
variable {G : q_G} {d : Nat} {σ σ' σ1 : q_S} {Q : Option Value → q_S → Prop} {tp : List Nat} {i t M : Nat} {s : q_ts} {S : List Int32} {D : Nat → Nat} {P : Nat → List Int32}
theorem FR_ (hf : Fk (SRt t) (LRt t) σ σ') : Fk (SRd_ t) (LRt t) σ σ' := hf.mono (fun a j z => by unfold SRt at z; unfold SRd_; omega) (fun _ _ z => z)
theorem CN.keep {σ σ' : q_S} {N : q_nm} (h : CN σ t N) (h1 : ∀ i, q_L σ' (t + 1) i = q_L σ (t + 1) i) (h2 : ∀ i, q_L σ' (t + 2) i = q_L σ (t + 2) i) : CN σ' t N := fun x hx => by rw [h1, h2]; exact h x hx
-- the text of a town, from one of its lines on
def TnV (tp : List Nat) (t : Nat) (σ : q_S) (r : q_lr) (v : Int32) (σ' : q_S) : Prop := Fk (SRd_ t) (LRt t) σ σ' ∧ ((r.1 = 0 ∧ v = 0 ∧ CT σ' t r.2.2.1 r.2.2.2.1 ∧ CN σ' t r.2.2.2.2.2 ∧ WS r.2.2) ∨ (r.1 ≠ 0 ∧ v = nI (flt tp r.1 r.2.1)))
theorem Rd_town_ok (hM : IsM tp M) (hMl : M ≤ tp.length) (hw : WTp tp) (hd : 41 ≤ d) (ht : q_isTw t) (hs : q_Sh σ) (hT : CTp σ tp) (hq : ∀ v σ', TnV tp t σ (tnA tp (tp.length + 1) ts0 0) v σ' → Q (some (.int v)) σ') : q_Call G d 0 0 X_Rd_readTown [.ref 4, .ref t] σ Q := by
  obtain ⟨d, rfl⟩ : ∃ d', d = d' + 1 := ⟨d - 1, by omega⟩
  have h0 := isTw_cases ht
  have hl := hw.1
  refine q_cii (Pp := TnV tp t σ (tnA tp (tp.length + 1) ts0 0)) (by decide +kernel) (Nat.le_of_ble_eq_true rfl) (fun Q hv => ?_) hq
  -- behind a fault
  have stop : ∀ (l3 : Int32) (σ1 : q_S), q_Sh σ1 → Q (some (.int (q_I σ1 3 9))) σ1 → q_At G X_Rd_readTown (d + 1) 0 0 15 [some (.ref 4), some (.ref t), some (.int 0), some (.int l3)] [] σ1 Q := fun l3 σ1 hs1 q => v_Rd_readTown_15 ht hs1 ⟨fun _ => ⟨fun _ => q, fun z => absurd rfl z⟩, fun _ => ⟨fun _ => ⟨fun _ => q, fun z => absurd rfl z⟩, fun z => absurd rfl z⟩⟩
  have lp : ∀ n s i c σ1 S, M - i < n → c ≤ i → RdP tp t M σ1 s S i → WS s → Fk (SRd_ t) (LRt t) σ σ1 → (∀ v σ', TnV tp t σ (tnA tp n s i) v σ' → Q (some (.int v)) σ') → q_At G X_Rd_readTown (d + 1) 0 0 15 [some (.ref 4), some (.ref t), some (.int 1), some (.int (nI c))] [] σ1 Q := by
    intro n
    induction n with
    | zero => intro s i c σ1 S hn; omega
    | succ n ih =>
      intro s i c σ1 S hn hc hP hW f1 hv
      obtain ⟨hs1, hK, hT1, h15, hz, hi⟩ := hP
      rw [tnA] at hv
      have e0 : (q_I σ1 3 1 = 0) ↔ (tk tp i).1 = 0 := hK.s1 (n := 0) (by decide)
      -- the end
      have fin : (tk tp i).1 = 0 → q_Call G d 0 0 X_Tw_listen [.ref t] σ1 (q_rv (fun σ7 => Q (some (.int (q_I σ7 3 9))) σ7)) := fun z => by
        rw [if_pos z] at hv
        refine Tw_listen_ok (by omega) ht hs1 hW.1 hW.2.2.2.2 (hT1.ct0 hW.1 (by omega)) (fun σ2 f2 T2 => ⟨f2.sh hs1, rfl, ?_⟩)
        show Q (some (.int (q_I σ2 3 9))) σ2
        rw [f2.2.2.1 3 9 (fun z => by unfold S12 Sc at z; omega), hz]
        refine hv _ _ ⟨f1.tr (f2.k.mono (fun a j z => by rcases z with z | z; exact Or.inr (Or.inr (Or.inr z)); exact Or.inr (Or.inr (Or.inl (by omega)))) (fun _ _ z => z.elim)), Or.inl ⟨rfl, rfl, T2, hT1.2.2.1.keep (fun i => f2.2.2.2 _ _ (fun z => z)) (fun i => f2.2.2.2 _ _ (fun z => z)), hW⟩⟩
      refine v_Rd_readTown_15 ht hs1 ⟨fun c0 => ⟨fun z => absurd z (by decide), fun _ => fin ?_⟩, fun _ => ⟨fun z => absurd z (by decide), fun _ => ⟨fun z => ⟨fun z => absurd z (by decide), fun _ => fin (e0.mp z)⟩, fun z => ?_⟩⟩⟩
      · have : ¬ c < 1000 := fun z => nI_ge (a := c) (b := 1000) z (by decide) c0
        have : i = M := by omega
        rw [this, tk_end hM]
      · rw [e0] at z
        rw [if_neg z] at hv
        have hx := WS_A hM hi hW
        refine Rd_line_ok hM hMl hw (by omega) ht ⟨hs1, hK, hT1, h15, hz, hi⟩ hW (fun v σ2 hV => ?_)
        rcases hV with ⟨r0, rfl, f2, k2, z2, S2, T2, l2⟩ | ⟨r0, rfl, f2, z2⟩
        · obtain ⟨x1, x2, x3⟩ := hx r0
          rw [if_pos r0] at hv
          have hs2 := f2.sh hs1
          have F2 := f1.tr (FR_ f2)
          refine ⟨hs2, _, rfl, fun z => absurd z (by decide), fun _ => ?_⟩
          refine Tk_takeSign_ok (w := 59) (by omega) (by decide) hs2 hw k2 (fun c3 σ3 f3 k3 => ⟨f3.sh hs2, _, rfl, ?_⟩) (fun c3 σ3 f3 z3 => ⟨f3.sh hs2, _, rfl, ?_⟩)
          · rw [if_pos c3] at hv
            have hi3 := tk_s hM x3 c3
            rw [nI_1]
            exact ih _ _ (c + 1) σ3 S2 (by omega) (by omega) ⟨f3.sh hs2, k3, T2.k ht f3 (fun a j z => lt27A z) (fun a j z => lt27l z), by omega, f39 f3 z2, hi3⟩ x1 (F2.tr (FR_ (FAt f3))) hv
          · rw [if_neg c3] at hv
            refine stop _ σ3 (f3.sh hs2) ?_
            rw [z3]
            exact hv _ _ ⟨F2.tr (FR_ (F9t f3)), Or.inr ⟨(by decide : (1 : Nat) ≠ 0), rfl⟩⟩
        · rw [if_neg r0] at hv
          have hs2 := f2.sh hs1
          refine ⟨hs2, _, rfl, fun _ => stop _ σ2 hs2 ?_, fun z => absurd rfl z⟩
          rw [z2]
          exact hv _ _ ⟨f1.tr (FR_ f2), Or.inr ⟨r0, rfl⟩⟩
  refine v_Rd_readTown_0 ht hs (Tw_forget_ok (by omega) ht hs (fun σ1 f1 T1 => ⟨f1.sh hs, rfl, ?_⟩))
  have F1 : Fk (SRd_ t) (LRt t) σ σ1 := f1.k.mono (fun a j z => by unfold SFg at z; unfold SRd_; omega) (fun _ _ z => z.elim)
  have hs1 := f1.sh hs
  refine Tk_start_ok (by omega) hs1 hw (hT.k f1.k (fun a j z => by unfold SFg at z; omega)) (fun σ2 f2 k2 z2 => ⟨f2.sh hs1, rfl, ?_⟩)
  refine lp (tp.length + 1) ts0 0 0 σ2 q_unt (by omega) (Nat.le_refl _) ⟨f2.sh hs1, k2, T1.k ht f2 (fun a j z => by unfold SKc at z; omega) (fun a j z => lt27l z), by decide, z2, Nat.zero_le _⟩ WS_0 (F1.tr (f2.mono (fun a j z => Or.inl z) (fun a j z => Or.inl z))) hv
-- all begins anew
def SBg (p : Nat) : Nat → Nat → Prop := fun a i => (15 ≤ a ∧ a ≤ 18) ∨ (a = p ∧ i = 4) ∨ a = 14 ∨ (a = 0 ∧ i = 17) ∨ a = 26 ∨ (a = 5 ∧ i = 8)
theorem W_anew_ok {p : Nat} (hd : 2 ≤ d) (ht : q_isTw t) (hp : q_isDy p) (hs : q_Sh σ) (hR : q_R σ 0 12 = some t) (hR2 : q_R σ 0 14 = some p) (hD : WfD D) (hT : CT0 σ t D P) (hq : ∀ σ', Fr (SBg p) (fun a _ => a = 14) σ σ' → CL σ' 15 (stL D) → q_I σ' p 4 = 0 → CTl σ' 14 [] → q_I σ' 0 17 = 0 → (∀ m, m < 4 → q_I σ' 26 m = 0) → q_I σ' 5 8 = 0 → Q none σ') : q_Call G d 0 0 X_W_startAnew [.ref 0] σ Q := by
  obtain ⟨d, rfl⟩ : ∃ d', d = d' + 1 + 1 := ⟨d - 2, by omega⟩
  have hp0 := isDy_cases hp
  refine q_cv0 (P := fun σ' => Fr (SBg p) (fun a _ => a = 14) σ σ' ∧ CL σ' 15 (stL D) ∧ q_I σ' p 4 = 0 ∧ CTl σ' 14 [] ∧ q_I σ' 0 17 = 0 ∧ (∀ m, m < 4 → q_I σ' 26 m = 0) ∧ q_I σ' 5 8 = 0) (by decide +kernel) (Nat.le_of_ble_eq_true rfl) (fun Q hq => ?_) (fun σ' h => hq σ' h.1 h.2.1 h.2.2.1 h.2.2.2.1 h.2.2.2.2.1 h.2.2.2.2.2.1 h.2.2.2.2.2.2)
  refine v_W_startAnew_0 hs ⟨t, hR, ht, Li_begin_ok (d := d) ht isLi_15 hs hD hT (fun σ1 f1 g1 => ⟨f1.sh hs, rfl, p, by rw [f1.2.1]; exact hR2, hp, ?_⟩)⟩
  have F1 : Fr (SBg p) (fun a _ => a = 14) σ (q_setI σ1 p 4 0) := (f1.mono (fun a j z => by unfold SLi at z; unfold SBg; omega) (fun _ _ z => z.elim)).tr (Fr.setI (Or.inr (Or.inl ⟨rfl, rfl⟩)))
  have hs1 := F1.sh hs
  refine q_cv0 (P := fun σ' => σ' = q_setI (q_setL (q_setL (q_setI σ1 p 4 0) 14 0 0) 14 1 0) 14 2 0) (by decide +kernel) (Nat.le_of_ble_eq_true rfl) (fun Q hq => v_Tl_forget_0 (a0 := 14) (by decide : 14 ∈ q_lTl) hs1 (hq _ rfl)) (fun σ2 h2 => ?_)
  have F2 : Fr (SBg p) (fun a _ => a = 14) σ σ2 := by
    rw [h2]
    exact ((F1.tr (Fr.setL rfl)).tr (Fr.setL rfl)).tr (Fr.setI (Or.inr (Or.inr (Or.inl rfl))))
  refine ⟨F2.sh hs, rfl, ?_⟩
  have F3 : Fr (SBg p) (fun a _ => a = 14) σ (q_setI σ2 0 17 0) := F2.tr (Fr.setI (Or.inr (Or.inr (Or.inr (Or.inl ⟨rfl, rfl⟩)))))
  have c15 : CL (q_setI σ2 0 17 0) 15 (stL D) := by
    rw [h2]
    exact g1.keep (fun a j b1 b2 => by rw [q_I_ne (by omega), q_I_ne (by omega), q_I_setL, q_I_setL, q_I_ne (by omega)])
  have cp : q_I (q_setI σ2 0 17 0) p 4 = 0 := by rw [h2, q_I_ne (by omega), q_I_ne (by omega), q_I_setL, q_I_setL, q_I_eq]
  have ct : CTl (q_setI σ2 0 17 0) 14 [] := by
    rw [h2]
    refine ⟨?_, ?_, ?_⟩
    · rw [q_L_setI, q_L_setI, q_L_ne (by decide), q_L_eq]; rfl
    · rw [q_L_setI, q_L_setI, q_L_eq]; rfl
    · rw [q_I_ne (by decide), q_I_eq]; rfl
  refine up_ind (R := fun k => ∀ σ3, Fr (fun a _ => a = 26) noL (q_setI σ2 0 17 0) σ3 → (∀ m, m < k → q_I σ3 26 m = 0) → q_At G X_W_startAnew (d + 1 + 1) 0 0 33 [some (.ref 0), some (.int (nI k))] [] σ3 Q) (n := 4) (fun σ3 f3 g3 => ?_) (fun k hk ih σ3 f3 g3 => ?_) 0 (Nat.zero_le _) _ Fr.rf (fun m hm => absurd hm (Nat.not_lt_zero m))
  · have F4 := F3.tr (f3.mono (SI' := SBg p) (SL' := fun a _ => a = 14) (fun a j z => Or.inr (Or.inr (Or.inr (Or.inr (Or.inl z))))) (fun _ _ z => z.elim))
    refine v_W_startAnew_33 (F4.sh hs) ⟨fun _ => hq _ ⟨F4.tr (Fr.setI (Or.inr (Or.inr (Or.inr (Or.inr (Or.inr ⟨rfl, rfl⟩)))))), c15.keep (fun a j b1 b2 => by rw [q_I_ne (by omega), f3.2.2.1 _ _ (by omega)]), ?_, ct.keep (fun i => f3.2.2.2 _ _ (fun z => z)) (fun i => by rw [q_I_ne (by omega), f3.2.2.1 _ _ (by omega)]), ?_, fun m hm => by rw [q_I_ne (by omega)]; exact g3 m hm, q_I_eq⟩, fun c => absurd (by decide) c⟩
    · rw [q_I_ne (by omega), f3.2.2.1 _ _ (by omega)]; exact cp
    · rw [q_I_ne (by omega), f3.2.2.1 _ _ (by omega), q_I_eq]
  · have F4 := F3.tr (f3.mono (SI' := SBg p) (SL' := fun a _ => a = 14) (fun a j z => Or.inr (Or.inr (Or.inr (Or.inr (Or.inl z))))) (fun _ _ z => z.elim))
    refine v_W_startAnew_33 (F4.sh hs) ⟨fun c => ge_not (a := k) (b := 4) c hk (by decide), fun _ => ⟨k, rfl, hk, ?_⟩⟩
    rw [nI_1]
    refine ih _ (f3.tr (Fr.setI rfl)) (fun m hm => ?_)
    by_cases e : m = k
    · subst e
      rw [q_I_eq]
      rfl
    · rw [q_I_ne (by omega)]
      exact g3 m (by omega)
end CTOWN2
