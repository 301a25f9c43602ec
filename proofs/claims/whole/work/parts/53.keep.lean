-- what a change of lives, tales, marks leaves as it was
def lfA : Nat → Nat → Prop := fun a i => (a = 0 ∧ 16 ≤ i) ∨ a = 12 ∨ a = 13 ∨ (14 ≤ a ∧ a ≤ 22) ∨ a = 26 ∨ (75 ≤ a ∧ a ≤ 158)
def lfM : Nat → Nat → Prop := fun a i => a = 175 ∨ a = 176 ∨ a = 178 ∨ (a = 159 ∧ (i = 0 ∨ i = 25 ∨ i = 28))
theorem isDy_cases {p : Nat} (hp : q_isDy p) : p = 65 ∨ p = 70 := (by decide : ∀ p ∈ q_lDy, p = 65 ∨ p = 70) p hp
section KEEP
variable {G : q_G} {d : Nat} {σ σ' : q_S} {Q : Option Value → q_S → Prop} {t p : Nat} {D : Nat → Nat} {P : Nat → List Int32} {N : q_nm} {hm : Nat → Nat} {L L' : Nat → Int32} {un un' : List q_lf} {mk mk' : Nat → Option (q_lf × q_tl)} {tl tl' : q_tl} {dy : q_dy} {tp : List Nat} {x y : Int32}
theorem lfA_fT {a i : Nat} (h : lfA a i) : fT a := by unfold lfA at h; unfold fT; omega
theorem lfA_lo {a i : Nat} (h : lfA a i) : a < 159 := by unfold lfA at h; omega
theorem lfM_hi {a i : Nat} (h : lfM a i) : 159 ≤ a := by unfold lfM at h; omega
theorem CJ.upd (h : CJ σ t p D P N L un mk tl dy tp) (hf : Fr lfA lfA σ σ') (h1 : CL σ' 15 L') (h2 : CU σ' un') (h3 : CM σ' mk') (h4 : CTl σ' 14 tl') : CJ σ' t p D P N L' un' mk' tl' dy tp := by
  obtain ⟨⟨c1, c2, c3, c4, c5, c6, c7, c8, c9, c10⟩, hK⟩ := h
  have ht := isTw_cases c1.2.1
  have hp := isDy_cases c2.2.1
  refine ⟨⟨by rw [hf.2.1]; exact c1, by rw [hf.2.1]; exact c2, c3.fr c1.2.1 hf (fun a i z => lfA_fT z) (fun a i z => lfA_fT z), fun x hx => ?_, h1, h2, h3, h4, ⟨?_, fun k x hx => ?_⟩, ⟨?_, fun i x hx => ?_⟩⟩, hK.fr hf (fun a i z => by unfold lfA at z; omega) (fun a i z => by unfold lfA at z; omega)⟩
  · rw [hf.2.2.2 _ _ (fun z => by unfold lfA at z; omega), hf.2.2.2 _ _ (fun z => by unfold lfA at z; omega)]
    exact c4 x hx
  · rw [hf.2.2.1 _ _ (fun z => by unfold lfA at z; omega)]; exact c9.1
  · rw [hf.2.2.1 _ _ (fun z => by unfold lfA at z; omega), hf.2.2.1 _ _ (fun z => by unfold lfA at z; omega), hf.2.2.1 _ _ (fun z => by unfold lfA at z; omega), hf.2.2.1 _ _ (fun z => by unfold lfA at z; omega)]
    exact c9.2 k x hx
  · rw [hf.2.2.1 _ _ (fun z => by unfold lfA at z; omega)]; exact c10.1
  · rw [hf.2.2.1 _ _ (fun z => by unfold lfA at z; omega)]; exact c10.2 i x hx
theorem MJ.upd (hw : WJ D P N hm L un mk tl dy tp) (h : MJ σ D P N L un mk tl dy tp) (hf : Fr lfM lfM σ σ') (h1 : ML σ' 0 L') (h2 : MU σ' un') (h3 : MM σ' mk') (h4 : MTl σ' 0 tl') : MJ σ' D P N L' un' mk' tl' dy tp := by
  obtain ⟨c1, c2, c3, c4, c5, c6, c7, c8⟩ := h
  refine ⟨c1.fr hf (fun a i z => by unfold lfM at z; omega), ⟨?_, fun k x hx => ?_⟩, h1, h2, h3, h4, c7.keep hw.2.2.2.2.2.2.2.2.1.1 (fun i _ => hf.2.2.1 _ _ (fun z => by unfold lfM at z; omega)), ⟨?_, fun i x hx => ?_⟩⟩
  · exact ⟨by rw [hf.2.2.1 _ _ (fun z => by unfold lfM at z; omega)]; exact c2.1.1, fun k hk => by rw [hf.2.2.2 _ _ (fun z => by unfold lfM at z; omega)]; exact c2.1.2 k hk⟩
  · rw [hf.2.2.2 _ _ (fun z => by unfold lfM at z; omega), hf.2.2.1 _ _ (fun z => by unfold lfM at z; omega)]; exact c2.2 k x hx
  · rw [hf.2.2.1 _ _ (fun z => by unfold lfM at z; omega)]; exact c8.1
  · rw [hf.2.2.1 _ _ (fun z => by unfold lfM at z; omega)]; exact c8.2 i x hx
def pushU (hm : Nat → Nat) (L : Nat → Int32) (un : List q_lf) : List q_lf := ((hm, L) :: un).take 16
theorem pushU_len (hl : un.length ≤ 16) : (pushU hm L un).length = if un.length < 16 then un.length + 1 else 16 := by
  unfold pushU
  rw [List.length_take, List.length_cons]
  split <;> omega
theorem WU_push (hu : WU D un) (hL : WL D hm L) : WU D (pushU hm L un) := by
  refine ⟨by unfold pushU; rw [List.length_take]; omega, fun u h => ?_⟩
  have := List.mem_of_mem_take h
  rcases List.mem_cons.mp this with e | e
  · rw [e]; exact hL
  · exact hu.2 u e
theorem isLi_past {k : Nat} (h : k < 16) : q_isLi (75 + 4 * k) := (by decide : ∀ k, k < 16 → (75 + 4 * k) ∈ q_lLi) k h
theorem isLi_mark {k : Nat} (h : k < 4) : q_isLi (139 + 5 * k) := (by decide : ∀ k, k < 4 → (139 + 5 * k) ∈ q_lLi) k h
theorem W_remember_ok (hs : q_Sh σ) (hw : WJ D P N hm L un mk tl dy tp) (hJ : CJ σ t p D P N L un mk tl dy tp) (hq : ∀ σ', Fr lfA lfA σ σ' → CJ σ' t p D P N L (pushU hm L un) mk tl dy tp → Q none σ') : q_Call G (d + 2) 0 0 X_W_remember [.ref 0] σ Q := by
  refine q_cv0 (P := fun σ' => Fr lfA lfA σ σ' ∧ CJ σ' t p D P N L (pushU hm L un) mk tl dy tp) (by decide +kernel) (Nat.le_of_ble_eq_true rfl) (fun Q hq => ?_) (fun σ' h => hq σ' h.1 h.2)
  obtain ⟨e, e1, e2, e3, e4⟩ := hJ.1.2.2.2.2.2.1
  have hl := hw.2.2.2.2.2.1.1
  refine v_W_remember_0 hs ⟨e, e2, e1, Li_become_ok (isLi_past e1) isLi_15 (by omega) hs hJ.1.2.2.2.2.1 (fun σ1 f1 g1 => ⟨f1.sh hs, rfl, ?_⟩)⟩
  have k0 : ∀ i, q_I σ1 0 i = q_I σ 0 i := fun i => f1.2.2.1 _ _ (fun z => by unfold SLi at z; omega)
  have a1 : ((q_I σ1 0 16) + 1) - ((q_I σ1 0 16) + 1) / 16 * 16 = nI ((e + 1) % 16) := by rw [k0, e2, nI_1]; exact pk_rem (by omega) (by decide) (by decide)
  dsimp only
  rw [a1, q_I_ne (by omega), k0, e3, nI_1]
  have a2 : (if (16 : Int32) < nI (un.length + 1) then 16 else nI (un.length + 1)) = nI (pushU hm L un).length := by
    rw [pushU_len hl]
    show (if nI 16 < nI (un.length + 1) then nI 16 else nI (un.length + 1)) = _
    by_cases c : un.length < 16
    · rw [if_neg (nI_nlt (a := 16) (by omega) (by omega)), if_pos c]
    · rw [if_pos (nI_lt (a := 16) (b := un.length + 1) (by omega) (by omega)), if_neg c]
  rw [a2]
  have f2 : Fr lfA lfA σ (q_setI (q_setI σ1 0 16 (nI ((e + 1) % 16))) 0 17 (nI (pushU hm L un).length)) := (f1.mono (fun a i z => by unfold SLi at z; unfold lfA; omega) (fun _ _ z => z.elim)).tr (Fr.tr (Fr.setI (Or.inl ⟨rfl, by decide⟩)) (Fr.setI (Or.inl ⟨rfl, by decide⟩)))
  have k1 : ∀ a i, a ≠ 0 → (a < 75 + 4 * e ∨ 75 + 4 * e + 3 < a) → q_I (q_setI (q_setI σ1 0 16 (nI ((e + 1) % 16))) 0 17 (nI (pushU hm L un).length)) a i = q_I σ a i := fun a i h1 h2 => by
    rw [q_I_ne (by omega), q_I_ne (by omega)]
    exact f1.2.2.1 _ _ (fun z => by unfold SLi at z; omega)
  refine hq _ ⟨f2, hJ.upd f2 (hJ.1.2.2.2.2.1.keep (fun a i b1 b2 => k1 a i (by omega) (by omega))) ⟨(e + 1) % 16, Nat.mod_lt _ (by decide), by rw [q_I_ne (by omega), q_I_eq], q_I_eq, fun i u hu => ?_⟩ (hJ.1.2.2.2.2.2.2.1.keep (fun a i b => k1 a i (by omega) (by omega)) (fun a i b1 b2 => f1.2.2.2 _ _ (fun z => z))) (hJ.1.2.2.2.2.2.2.2.1.keep (fun i => f1.2.2.2 _ _ (fun z => z)) (fun i => k1 _ _ (by omega) (by omega)))⟩
  have hi : i < 16 := by
    have := (List.getElem?_eq_some_iff.mp hu).1
    rw [pushU_len hl] at this
    split at this <;> omega
  unfold pushU at hu
  rw [List.getElem?_take, if_pos hi] at hu
  cases i with
  | zero =>
    have hu : (hm, L) = u := Option.some.inj hu
    subst hu
    rw [show ((e + 1) % 16 + 15 - 0) % 16 = e by omega]
    exact g1.keep (fun a j b1 b2 => by rw [q_I_ne (by omega), q_I_ne (by omega)])
  | succ i =>
    rw [List.getElem?_cons_succ] at hu
    have := e4 i u hu
    rw [show ((e + 1) % 16 + 15 - (i + 1)) % 16 = (e + 15 - i) % 16 by omega]
    exact this.keep (fun a j b1 b2 => k1 a j (by omega) (by omega))
def SKp : Nat → Nat → Prop := fun a i => (a = 175 ∧ 410 ≤ i ∧ i < 1722) ∨ (a = 159 ∧ i = 25)
theorem M_keeps_ok (hs : q_Sh σ) (hw : WJ D P N hm L un mk tl dy tp) (hJ : MJ σ D P N L un mk tl dy tp) (hq : ∀ σ', Fr lfM lfM σ σ' → MJ σ' D P N L (pushU hm L un) mk tl dy tp → Q none σ') : q_Call G (d + 1) 0 0 X_M_keeps [.ref 159] σ Q := by
  refine q_cv0 (P := fun σ' => Fr lfM lfM σ σ' ∧ MJ σ' D P N L (pushU hm L un) mk tl dy tp) (by decide +kernel) (Nat.le_of_ble_eq_true rfl) (fun Q hq => ?_) (fun σ' h => hq σ' h.1 h.2)
  have hl := hw.2.2.2.2.2.1.1
  have eU := hJ.2.2.2.1.1
  -- the end: the life now is laid above v others
  have fin : ∀ (σ1 : q_S) (v : List q_lf), v.length < 16 → pushU hm L un = (hm, L) :: v → Fr SKp noL σ σ1 → MU σ1 v → q_Call G d 0 0 X_M_copies [.ref 159, .int 0, .int (82 * (5 + (q_I σ1 159 25))), .int 50] σ1 (q_rv (fun σ4 => Q none (q_setI σ4 159 25 ((q_I σ4 159 25) + 1)))) := by
    intro σ1 v hv hp fr hU
    have e1 : (82 : Int32) * (5 + nI v.length) = nI (82 * (5 + v.length)) := by rw [q_lit 5, q_lit 82, nI_add, pk_mul]
    rw [hU.1, e1]
    refine M_copies_ok (b := 0) (b' := 82 * (5 + v.length)) (n := 50) (fr.sh hs) (by omega) (by omega) (by omega) (fun σ2 f2 g2 => ⟨f2.sh (fr.sh hs), rfl, ?_⟩)
    have e2 : q_I σ2 159 25 + 1 = nI (v.length + 1) := by rw [f2.2.2.1 _ _ (fun z => by unfold SMr at z; omega), hU.1, nI_1]
    dsimp only
    rw [e2]
    have f3 : Fr SKp noL σ (q_setI σ2 159 25 (nI (v.length + 1))) := fr.tr ((f2.mono (fun a i z => by unfold SMr at z; unfold SKp; omega) (fun _ _ z => z)).tr (Fr.setI (Or.inr ⟨rfl, rfl⟩)))
    have f4 : Fr lfM lfM σ (q_setI σ2 159 25 (nI (v.length + 1))) := f3.mono (fun a i z => by unfold SKp at z; unfold lfM; omega) (fun _ _ z => z.elim)
    refine hq _ ⟨f4, hJ.upd hw f4 (hJ.2.2.1.keep (fun i b1 b2 => f3.2.2.1 _ _ (fun z => by unfold SKp at z; omega))) ?_ (hJ.2.2.2.2.1.keep hw.2.2.2.2.2.2.1 (fun i => f3.2.2.1 _ _ (fun z => by unfold SKp at z; omega)) (fun i b1 b2 => f3.2.2.1 _ _ (fun z => by unfold SKp at z; omega))) (hJ.2.2.2.2.2.1.keep hw.2.2.2.2.2.2.2.1.1 (fun i b1 b2 => f3.2.2.1 _ _ (fun z => by unfold SKp at z; omega)))⟩
    rw [hp]
    refine ⟨q_I_eq, fun i u hu => ?_⟩
    rw [List.length_cons]
    cases i with
    | zero =>
      have hu : (hm, L) = u := Option.some.inj hu
      subst hu
      rw [show v.length + 1 - 1 - 0 = v.length by omega]
      intro j hj
      rw [q_I_ne (by omega), g2 j hj, fr.2.2.1 _ _ (fun z => by unfold SKp at z; omega)]
      exact hJ.2.2.1 j hj
    | succ i =>
      rw [List.getElem?_cons_succ] at hu
      have hi : i < v.length := (List.getElem?_eq_some_iff.mp hu).1
      rw [show v.length + 1 - 1 - (i + 1) = v.length - 1 - i by omega]
      exact (hU.2 i u hu).keep (fun j b1 b2 => by rw [q_I_ne (by omega)]; exact f2.2.2.1 _ _ (fun z => by unfold SMr at z; omega))
  refine v_M_keeps_0 hs ⟨fun c => ?_, fun c => ?_⟩
  · rw [eU, show (16 : Int32) = nI 16 from rfl, nI_eq (by omega) (by decide)] at c
    refine fin σ un (by omega) ?_ Fr.rf hJ.2.2.2.1
    unfold pushU
    rw [List.take_of_length_le (by rw [List.length_cons]; omega)]
  · rw [eU, show (16 : Int32) = nI 16 from rfl, nI_eq (by omega) (by decide)] at c
    have hp : pushU hm L un = (hm, L) :: un.take 15 := by unfold pushU; rfl
    -- the others go down by one
    refine up_ind (R := fun k => 1 ≤ k → ∀ σ1, Fr SKp noL σ σ1 → q_I σ1 159 25 = nI 16 → (∀ i u, un[i]? = some u → (i < 15 → 16 - i ≤ k → ML σ1 (82 * (5 + (14 - i))) u.2) ∧ (16 - i > k → ML σ1 (82 * (5 + (15 - i))) u.2)) → q_At G X_M_keeps (d + 1) 0 0 11 [some (.ref 159), some (.int (nI k))] [] σ1 Q) (n := 16) (fun _ σ1 fr g1 g2 => ?_) (fun k hk ih h1 σ1 fr g1 g2 => ?_) 1 (by decide) (Nat.le_refl 1) σ Fr.rf (by rw [eU, c]) (fun i u hu => ⟨fun h3 h4 => by omega, fun h3 => ?_⟩)
    · refine v_M_keeps_11 (fr.sh hs) ⟨fun _ => ?_, fun c => absurd (by decide) c⟩
      rw [g1, show nI 16 - 1 = nI 15 from nI_pred 15]
      refine fin _ (un.take 15) (by rw [List.length_take]; omega) hp (fr.tr (Fr.setI (Or.inr ⟨rfl, rfl⟩))) ⟨by rw [q_I_eq, List.length_take]; congr 1; omega, fun i u hu => ?_⟩
      have hi : i < 15 := by
        have := (List.getElem?_eq_some_iff.mp hu).1
        rw [List.length_take] at this
        omega
      rw [List.getElem?_take, if_pos hi] at hu
      have := (g2 i u hu).1 hi (by omega)
      rw [List.length_take, show min 15 un.length - 1 - i = 14 - i by omega]
      exact this.keep (fun j b1 b2 => q_I_ne (by omega))
    · have e1 : (82 : Int32) * (5 + nI k) = nI (82 * (5 + k)) := by rw [q_lit 5, q_lit 82, nI_add, pk_mul]
      have e2 : (82 : Int32) * ((5 + nI k) - 1) = nI (82 * (5 + (k - 1))) := by
        rw [q_lit 5, q_lit 82, nI_add, show 5 + k = (5 + (k - 1)) + 1 by omega, nI_pred, pk_mul]
      refine v_M_keeps_11 (fr.sh hs) ⟨fun c => ge_not (b := 16) c hk (by decide), fun _ => ?_⟩
      rw [e1, e2, nI_1]
      refine M_copies_ok (b := 82 * (5 + k)) (b' := 82 * (5 + (k - 1))) (n := 50) (fr.sh hs) (by omega) (by omega) (by omega) (fun σ2 f2 k2 => ⟨f2.sh (fr.sh hs), rfl, ?_⟩)
      refine ih (by omega) σ2 (fr.tr (f2.mono (fun a i z => by unfold SMr at z; unfold SKp; omega) (fun _ _ z => z))) (by rw [f2.2.2.1 _ _ (fun z => by unfold SMr at z; omega)]; exact g1) (fun i u hu => ⟨fun h3 h4 => ?_, fun h3 => ?_⟩)
      · by_cases c3 : 16 - i ≤ k
        · exact ((g2 i u hu).1 h3 c3).keep (fun j b1 b2 => f2.2.2.1 _ _ (fun z => by unfold SMr at z; omega))
        · have e3 : 16 - i = k + 1 := by omega
          have := (g2 i u hu).2 (by omega)
          intro j hj
          have h5 := k2 j hj
          rw [show k - 1 = 14 - i by omega] at h5
          rw [h5, show k = 15 - i by omega]
          exact this j hj
      · exact ((g2 i u hu).2 (by omega)).keep (fun j b1 b2 => f2.2.2.1 _ _ (fun z => by unfold SMr at z; omega))
    · have := hJ.2.2.2.1.2 i u hu
      rwa [c, show 16 - 1 - i = 15 - i by omega] at this
end KEEP
