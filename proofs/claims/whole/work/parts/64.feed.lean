-- the tape
def okS (c : Nat) : Prop := c = 10 ∨ (32 ≤ c ∧ c ≤ 126)
def pushT (tp : List Nat) (c : Nat) : List Nat := if c = 10 ∨ (32 ≤ c ∧ c ≤ 126) then (if tp.length < 1000 then tp ++ [c] else tp) else tp
def bv (v : Int64) (k : Nat) : Nat := v.toBitVec.toNat / 2 ^ k % 2 ^ 8
def fd (v : Int64) : Nat → List Nat → List Nat
  | 0, tp => tp
  | j + 1, tp => fd v j (pushT tp (bv v (8 * j)))
theorem bv_lt (v : Int64) (k : Nat) : bv v k < 256 := Nat.mod_lt _ (by decide)
theorem low8 (x : Int64) : x.toInt32 &&& 255 = nI (x.toBitVec.toNat % 2 ^ 8) := by
  rw [pk_and _ 8 (by decide)]
  refine congrArg nI ?_
  rw [Int64.toBitVec_toInt32, BitVec.signExtend_eq_setWidth_of_le _ (by decide), BitVec.toNat_setWidth]
  exact Nat.mod_mod_of_dvd _ (by decide)
theorem bvM {v s : Int64} {k : Nat} (hs : (s.toBitVec.smod 64).toNat = k) (hk : k ≤ 56) : (v >>> s).toInt32 &&& 255 = nI (bv v k) := by
  rw [low8]
  refine congrArg nI ?_
  show (v.toBitVec.sshiftRight (s.toBitVec.smod 64).toNat).toNat % 2 ^ 8 = _
  rw [hs]
  unfold bv
  refine Nat.eq_of_testBit_eq (fun i => ?_)
  rw [Nat.testBit_mod_two_pow, Nat.testBit_mod_two_pow, Nat.testBit_div_two_pow, BitVec.testBit_toNat, BitVec.testBit_toNat, BitVec.getLsbD_sshiftRight]
  by_cases c : i < 8
  · have h1 : ¬ 64 ≤ i := by omega
    have h2 : k + i < 64 := by omega
    simp [c, h1, h2, Nat.add_comm]
  · simp [c]
theorem bvC {v : Int64} {s : Int32} {k : Nat} (hs : ((s.toInt64.toUInt64 &&& Int64.toUInt64 63).toBitVec % 64).toNat = k) : ((v.toUInt64 >>> (s.toInt64.toUInt64 &&& Int64.toUInt64 63)).toInt64).toInt32 &&& 255 = nI (bv v k) := by
  rw [low8]
  refine congrArg nI ?_
  have e : (v.toUInt64 >>> (s.toInt64.toUInt64 &&& Int64.toUInt64 63)).toInt64.toBitVec = v.toBitVec >>> k := by
    rw [← hs]
    exact UInt64.toBitVec_shiftRight _ _
  rw [e, BitVec.toNat_ushiftRight, Nat.shiftRight_eq_div_pow]
  rfl
theorem s8M : ∀ j, j < 8 → (((nI (8 * j)).toInt64 &&& 63).toBitVec.smod 64).toNat = 8 * j := by decide +kernel
theorem s8C : ∀ j, j < 8 → (((nI (8 * j)).toInt64.toUInt64 &&& Int64.toUInt64 63).toBitVec % 64).toNat = 8 * j := by decide +kernel
theorem m8 : ∀ j, j < 8 → nI (8 * (j + 1)) + (-8) = nI (8 * j) := by decide +kernel
theorem pushT_ok {tp : List Nat} {c : Nat} (h : WTp tp) : WTp (pushT tp c) := by
  unfold pushT
  split
  · next hc =>
    split
    · next hl =>
      refine ⟨by rw [List.length_append]; simp only [List.length_cons, List.length_nil]; omega, fun x hx => ?_⟩
      rcases List.mem_append.mp hx with hx | hx
      · exact h.2 x hx
      · rw [List.mem_singleton] at hx
        rw [hx]
        exact hc
    · exact h
  · exact h
theorem fd_ok {v : Int64} : ∀ j tp, WTp tp → WTp (fd v j tp)
  | 0, _, h => h
  | j + 1, tp, h => fd_ok j _ (pushT_ok h)
theorem chr_N {c : Nat} (h : c < 256) : vp_nar .char ((nI c).toUInt32 % 65536).toInt32 = nI c := by
  rw [pk_vc, pk_char, pk_tn (by omega), Nat.mod_eq_of_lt (by omega)]
theorem app_get {tp : List Nat} {c i x : Nat} (h : (tp ++ [c])[i]? = some x) : (i < tp.length ∧ tp[i]? = some x) ∨ (i = tp.length ∧ x = c) := by
  by_cases q : i < tp.length
  · rw [List.getElem?_append_left q] at h
    exact Or.inl ⟨q, h⟩
  · have hi : i = tp.length := by
      have := (List.getElem?_eq_some_iff.mp h).1
      rw [List.length_append] at this
      simp only [List.length_cons, List.length_nil] at this
      omega
    subst hi
    rw [List.getElem?_append_right (Nat.le_refl _), Nat.sub_self] at h
    exact Or.inr ⟨rfl, (Option.some.inj h).symm⟩
section FEED
variable {G : q_G} {d : Nat} {σ σ' : q_S} {Q : Option Value → q_S → Prop} {t p : Nat} {D : Nat → Nat} {P : Nat → List Int32} {N : q_nm} {hm w : Nat → Nat} {L L' : Nat → Int32} {un un' : List q_lf} {mk mk' : Nat → Option (q_lf × q_tl)} {tl tl' : q_tl} {dy : q_dy} {tp : List Nat} {x y z c u v : Int32} {f e : Nat}
def STp : Nat → Nat → Prop := fun a i => a = 2 ∨ (a = 1 ∧ i = 1)
def SMp : Nat → Nat → Prop := fun a i => a = 160 ∨ (a = 159 ∧ i = 2)
theorem Tp_add_ok {c : Nat} (hs : q_Sh σ) (hc : c < 256) (hw : WTp tp) (hT : CTp σ tp) (hq : ∀ σ', Fr STp noL σ σ' → CTp σ' (pushT tp c) → Q none σ') : q_Call G d 0 0 X_Tp_add [.ref 1, .int (nI c)] σ Q := by
  have hl := hw.1
  refine q_cv0 (P := fun σ' => Fr STp noL σ σ' ∧ CTp σ' (pushT tp c)) (by decide +kernel) (Nat.le_of_ble_eq_true rfl) (fun Q hq => ?_) (fun σ' h => hq σ' h.1 h.2)
  have ef : (if nI c = 10 then (1 : Int32) else (if nI c < 32 then (0 : Int32) else (if 126 < nI c then (0 : Int32) else (1 : Int32)))) = if c = 10 ∨ (32 ≤ c ∧ c ≤ 126) then 1 else 0 := by
    have e1 : (nI c = 10) ↔ c = 10 := nI_eq (b := 10) (by omega) (by decide)
    have e2 : (nI c < 32) ↔ c < 32 := nI_ltI (b := 32) (by omega) (by decide)
    have e3 : (126 < nI c) ↔ 126 < c := nI_ltI (a := 126) (by decide) (by omega)
    simp only [e1, e2, e3]
    by_cases q1 : c = 10
    · simp [q1]
    · by_cases q2 : c < 32
      · rw [if_neg q1, if_pos q2, if_neg (by omega)]
      · by_cases q3 : 126 < c
        · rw [if_neg q1, if_neg q2, if_pos q3, if_neg (by omega)]
        · rw [if_neg q1, if_neg q2, if_neg q3, if_pos (by omega)]
  refine v_Tp_add_0 hs ⟨fun k => hq _ ⟨Fr.rf, ?_⟩, fun k => ⟨fun k2 => hq _ ⟨Fr.rf, ?_⟩, fun k2 => ⟨tp.length, hT.1, ?_, hq _ ⟨Fr.tr (Fr.setI (Or.inl rfl)) (Fr.setI (Or.inr ⟨rfl, rfl⟩)), ?_⟩⟩⟩⟩
  · rw [ef, if10] at k
    unfold pushT
    rw [if_neg k]
    exact hT
  · rw [ef, if10, Classical.not_not] at k
    rw [hT.1] at k2
    unfold pushT
    rw [if_pos k, if_neg (fun h => ge_not (b := 1000) k2 h (by decide))]
    exact hT
  · rw [hT.1] at k2
    exact Nat.lt_of_not_le (fun h => k2 (nI_le (a := 1000) h (by omega)))
  · rw [ef, if10, Classical.not_not] at k
    rw [hT.1] at k2
    have hl2 : tp.length < 1000 := Nat.lt_of_not_le (fun h => k2 (nI_le (a := 1000) h (by omega)))
    unfold pushT
    rw [if_pos k, if_pos hl2]
    refine ⟨by rw [q_I_eq, q_I_ne (by omega), hT.1, nI_1, List.length_append]; rfl, fun i x hx => ?_⟩
    rw [q_I_ne (by omega)]
    rcases app_get hx with ⟨h1, h2⟩ | ⟨rfl, rfl⟩
    · rw [q_I_ne (by omega)]; exact hT.2 i x h2
    · rw [q_I_eq, chr_N hc]
theorem Tp_bytes_ok {v : Int64} (hs : q_Sh σ) (hw : WTp tp) (hT : CTp σ tp) (hq : ∀ σ', Fr STp noL σ σ' → CTp σ' (fd v 8 tp) → Q none σ') : q_Call G (d + 1) 0 0 X_Tp_addBytes [.ref 1, .long v] σ Q := by
  refine q_cv0 (P := fun σ' => Fr STp noL σ σ' ∧ CTp σ' (fd v 8 tp)) (by decide +kernel) (Nat.le_of_ble_eq_true rfl) (fun Q hq => ?_) (fun σ' h => hq σ' h.1 h.2)
  refine v_Tp_addBytes_0 hs ?_
  have lp : ∀ j (tp1 : List Nat) (σ1 : q_S), j < 8 → WTp tp1 → Fr STp noL σ σ1 → CTp σ1 tp1 → fd v (j + 1) tp1 = fd v 8 tp → q_At G X_Tp_addBytes (d + 1) 0 0 3 [some (.ref 1), some (.long v), none, some (.int (nI (8 * j)))] [] σ1 Q := by
    intro j
    induction j with
    | zero =>
      intro tp1 σ1 hj hw1 fr h1 he
      refine v_Tp_addBytes_3 (fr.sh hs) ⟨fun k => absurd k (by decide), fun _ => ?_⟩
      rw [bvC (s8C 0 (by decide))]
      refine Tp_add_ok (fr.sh hs) (bv_lt _ _) hw1 h1 (fun σ2 f2 g2 => ⟨f2.sh (fr.sh hs), rfl, ?_⟩)
      refine v_Tp_addBytes_3 (f2.sh (fr.sh hs)) ⟨fun _ => hq σ2 ⟨fr.tr f2, by rw [← he]; exact g2⟩, fun k => absurd (by decide) k⟩
    | succ j ih =>
      intro tp1 σ1 hj hw1 fr h1 he
      refine v_Tp_addBytes_3 (fr.sh hs) ⟨fun k => absurd k (nI_pos (by omega)), fun _ => ?_⟩
      rw [bvC (s8C (j + 1) hj)]
      refine Tp_add_ok (fr.sh hs) (bv_lt _ _) hw1 h1 (fun σ2 f2 g2 => ⟨f2.sh (fr.sh hs), rfl, ?_⟩)
      dsimp only
      rw [m8 j (by omega)]
      exact ih _ σ2 (by omega) (pushT_ok hw1) (fr.tr f2) g2 he
  exact lp 7 tp σ (by decide) hw Fr.rf hT rfl
theorem M_lay_ok {v : Int64} (hs : q_Sh σ) (hw : WTp tp) (hT : MTp σ tp) (hq : ∀ σ', Fr SMp noL σ σ' → MTp σ' (fd v 8 tp) → Q none σ') : q_Call G d 0 0 X_M_lay [.ref 159, .long v] σ Q := by
  refine q_cv0 (P := fun σ' => Fr SMp noL σ σ' ∧ MTp σ' (fd v 8 tp)) (by decide +kernel) (Nat.le_of_ble_eq_true rfl) (fun Q hq => ?_) (fun σ' h => hq σ' h.1 h.2)
  refine v_M_lay_0 hs ?_
  -- one sign
  have one : ∀ (j : Nat) (nx : Int32) (tp1 : List Nat) (σ1 : q_S), j < 8 → nI (8 * j) + (-8) = nx → WTp tp1 → Fr SMp noL σ σ1 → MTp σ1 tp1 → (∀ σ2, Fr SMp noL σ σ2 → MTp σ2 (pushT tp1 (bv v (8 * j))) → q_At G X_M_lay d 0 0 3 [some (.ref 159), some (.long v), none, some (.int nx), none] [] σ2 Q) → q_At G X_M_lay d 0 0 3 [some (.ref 159), some (.long v), none, some (.int (nI (8 * j))), none] [] σ1 Q := by
    intro j nx tp1 σ1 hj hn hw1 fr h1 ih
    have hl := hw1.1
    have hc := bv_lt v (8 * j)
    have e1 : (nI (bv v (8 * j)) = 10) ↔ bv v (8 * j) = 10 := nI_eq (b := 10) (by omega) (by decide)
    have e2 : (nI (bv v (8 * j)) < 32) ↔ bv v (8 * j) < 32 := nI_ltI (b := 32) (by omega) (by decide)
    have e3 : (126 < nI (bv v (8 * j))) ↔ 126 < bv v (8 * j) := nI_ltI (a := 126) (by decide) (by omega)
    have full : (bv v (8 * j) = 10 ∨ (32 ≤ bv v (8 * j) ∧ bv v (8 * j) ≤ 126)) → 1000 ≤ q_I σ1 159 2 → MTp σ1 (pushT tp1 (bv v (8 * j))) := fun q k2 => by
      rw [h1.1] at k2
      unfold pushT
      rw [if_pos q, if_neg (fun h => ge_not (b := 1000) k2 h (by decide))]
      exact h1
    have put : (bv v (8 * j) = 10 ∨ (32 ≤ bv v (8 * j) ∧ bv v (8 * j) ≤ 126)) → ¬ 1000 ≤ q_I σ1 159 2 → (∃ k10, q_I σ1 159 2 = nI k10 ∧ k10 < 1000 ∧ q_At G X_M_lay d 0 0 3 [some (.ref 159), some (.long v), none, some (.int nx), none] [] (q_setI (q_setI σ1 160 k10 (nI (bv v (8 * j)))) 159 2 ((q_I (q_setI σ1 160 k10 (nI (bv v (8 * j)))) 159 2) + 1)) Q) := fun q k2 => by
      rw [h1.1] at k2
      have hl2 : tp1.length < 1000 := Nat.lt_of_not_le (fun h => k2 (nI_le (a := 1000) h (by omega)))
      refine ⟨tp1.length, h1.1, hl2, ih _ (fr.tr (Fr.tr (Fr.setI (Or.inl rfl)) (Fr.setI (Or.inr ⟨rfl, rfl⟩)))) ?_⟩
      unfold pushT
      rw [if_pos q, if_pos hl2]
      refine ⟨by rw [q_I_eq, q_I_ne (by omega), h1.1, nI_1, List.length_append]; rfl, fun i x hx => ?_⟩
      rw [q_I_ne (by omega)]
      rcases app_get hx with ⟨a1, a2⟩ | ⟨rfl, rfl⟩
      · rw [q_I_ne (by omega)]; exact h1.2 i x a2
      · rw [q_I_eq]
    have no : ¬ (bv v (8 * j) = 10 ∨ (32 ≤ bv v (8 * j) ∧ bv v (8 * j) ≤ 126)) → MTp σ1 (pushT tp1 (bv v (8 * j))) := fun q => by
      unfold pushT
      rw [if_neg q]
      exact h1
    refine v_M_lay_3 (fr.sh hs) ⟨fun k => absurd k (nI_pos (by omega)), fun _ => ?_⟩
    rw [bvM (s8M j hj) (by omega), hn]
    refine ⟨fun k => ⟨fun k2 => ih σ1 fr (full (Or.inl (e1.mp k)) k2), fun k2 => put (Or.inl (e1.mp k)) k2⟩, fun k => ⟨fun k2 => ih σ1 fr (no ?_), fun k2 => ⟨fun k3 => ih σ1 fr (no ?_), fun k3 => ⟨fun k4 => ih σ1 fr (full ?_ k4), fun k4 => put ?_ k4⟩⟩⟩⟩
    · rw [e1] at k; rw [e2] at k2; omega
    · rw [e1] at k; rw [e2] at k2; rw [e3] at k3; omega
    · rw [e1] at k; rw [e2] at k2; rw [e3] at k3; omega
    · rw [e1] at k; rw [e2] at k2; rw [e3] at k3; omega
  have lp : ∀ j (tp1 : List Nat) (σ1 : q_S), j < 8 → WTp tp1 → Fr SMp noL σ σ1 → MTp σ1 tp1 → fd v (j + 1) tp1 = fd v 8 tp → q_At G X_M_lay d 0 0 3 [some (.ref 159), some (.long v), none, some (.int (nI (8 * j))), none] [] σ1 Q := by
    intro j
    induction j with
    | zero =>
      intro tp1 σ1 hj hw1 fr h1 he
      refine one 0 (-8) tp1 σ1 (by decide) (by decide) hw1 fr h1 (fun σ2 f2 g2 => ?_)
      exact v_M_lay_3 (f2.sh hs) ⟨fun _ => hq σ2 ⟨f2, by rw [← he]; exact g2⟩, fun k => absurd (by decide) k⟩
    | succ j ih =>
      intro tp1 σ1 hj hw1 fr h1 he
      exact one (j + 1) _ tp1 σ1 hj (m8 j (by omega)) hw1 fr h1 (fun σ2 f2 g2 => ih _ σ2 (by omega) (pushT_ok hw1) f2 g2 he)
  exact lp 7 tp σ (by decide) hw Fr.rf hT rfl
theorem CJ.tape {tp' : List Nat} (h : CJ σ t p D P N L un mk tl dy tp) (hl : un.length ≤ 16) (hf : Fr STp noL σ σ') (h1 : CTp σ' tp') : CJ σ' t p D P N L un mk tl dy tp' := by
  obtain ⟨⟨c1, c2, c3, c4, c5, c6, c7, c8, c9, c10⟩, hK⟩ := h
  have hp := isDy_cases c2.2.1
  refine ⟨⟨by rw [hf.2.1]; exact c1, by rw [hf.2.1]; exact c2, c3.fr c1.2.1 hf (fun a i z => by unfold STp at z; unfold fT; omega) (fun a i z => z.elim), fun x hx => ?_, c5.keepF hf (fun a i z => by unfold STp at z; omega), c6.keep hl (fun a i z => hf.2.2.1 _ _ (fun y => by unfold STp at y; omega)), c7.keep (fun a i z => hf.2.2.1 _ _ (fun y => by unfold STp at y; omega)) (fun a i b1 b2 => hf.2.2.2 _ _ (fun z => z)), c8.keep (fun i => hf.2.2.2 _ _ (fun z => z)) (fun i => hf.2.2.1 _ _ (fun y => by unfold STp at y; omega)), ⟨?_, fun k x hx => ?_⟩, h1⟩, hK.fr hf (fun a i z => by unfold STp at z; omega) (fun a i z => z.elim)⟩
  · rw [hf.2.2.2 _ _ (fun z => z), hf.2.2.2 _ _ (fun z => z)]; exact c4 x hx
  · rw [hf.2.2.1 _ _ (fun y => by unfold STp at y; omega)]; exact c9.1
  · rw [hf.2.2.1 _ _ (fun y => by unfold STp at y; omega), hf.2.2.1 _ _ (fun y => by unfold STp at y; omega), hf.2.2.1 _ _ (fun y => by unfold STp at y; omega), hf.2.2.1 _ _ (fun y => by unfold STp at y; omega)]; exact c9.2 k x hx
theorem MJ.tape {tp' : List Nat} (hw : WJ D P N hm L un mk tl dy tp) (h : MJ σ D P N L un mk tl dy tp) (hf : Fr SMp noL σ σ') (h1 : MTp σ' tp') : MJ σ' D P N L un mk tl dy tp' := by
  obtain ⟨c1, c2, c3, c4, c5, c6, c7, c8⟩ := h
  have k : ∀ a i, a ≠ 160 → (a = 159 → i ≠ 2) → q_I σ' a i = q_I σ a i := fun a i h1 h2 => hf.2.2.1 _ _ (fun z => by unfold SMp at z; omega)
  refine ⟨c1.fr hf (fun a i z => by unfold SMp at z; omega), ⟨?_, fun j x hx => ?_⟩, c3.keep (fun i _ _ => k _ _ (by decide) (by omega)), c4.keep hw.2.2.2.2.2.1.1 (k _ _ (by decide) (by omega)) (fun i _ _ => k _ _ (by decide) (by omega)), c5.keep hw.2.2.2.2.2.2.1 (fun i => k _ _ (by decide) (by omega)) (fun i _ _ => k _ _ (by decide) (by omega)), c6.keep hw.2.2.2.2.2.2.2.1.1 (fun i _ _ => k _ _ (by decide) (by omega)), c7.keep hw.2.2.2.2.2.2.2.2.1.1 (fun i _ => k _ _ (by decide) (by omega)), h1⟩
  · exact ⟨by rw [k _ _ (by decide) (by omega)]; exact c2.1.1, fun j hj => by rw [hf.2.2.2 _ _ (fun z => z)]; exact c2.1.2 j hj⟩
  · rw [hf.2.2.2 _ _ (fun z => z), k _ _ (by decide) (by omega)]; exact c2.2 j x hx
theorem W_feed_ok {a b c : Int64} (hs : q_Sh σ) (hw : WJ D P N hm L un mk tl dy tp) (hJ : CJ σ t p D P N L un mk tl dy tp) (hq : ∀ σ', Fr lo_ lo_ σ σ' → CJ σ' t p D P N L un mk tl dy (fd c 8 (fd b 8 (fd a 8 tp))) → Q (some (.int (nI (fd c 8 (fd b 8 (fd a 8 tp))).length))) σ') : q_Call G (d + 2) 0 0 X_W_feed [.ref 0, .long a, .long b, .long c] σ Q := by
  have w0 := hw.2.2.2.2.2.2.2.2.2
  have hl := hw.2.2.2.2.2.1.1
  refine q_enter (by decide +kernel) (Nat.le_of_ble_eq_true rfl) ?_
  refine v_W_feed_0 hs (Tp_bytes_ok (d := d) hs w0 hJ.1.2.2.2.2.2.2.2.2.2 (fun σ1 f1 g1 => ⟨f1.sh hs, rfl, ?_⟩))
  refine Tp_bytes_ok (d := d) (f1.sh hs) (fd_ok 8 _ w0) g1 (fun σ2 f2 g2 => ⟨f2.sh (f1.sh hs), rfl, ?_⟩)
  refine Tp_bytes_ok (d := d) (f2.sh (f1.sh hs)) (fd_ok 8 _ (fd_ok 8 _ w0)) g2 (fun σ3 f3 g3 => ⟨f3.sh (f2.sh (f1.sh hs)), rfl, ?_⟩)
  have f4 := (f1.tr f2).tr f3
  dsimp only
  rw [g3.1]
  exact ⟨q_no_i, hq σ3 (f4.lo (fun a i z => by unfold STp at z; omega) (fun _ _ z => z.elim)) (hJ.tape hl f4 g3)⟩
theorem M_feed_ok {a b c : Int64} (hs : q_Sh σ) (hw : WJ D P N hm L un mk tl dy tp) (hJ : MJ σ D P N L un mk tl dy tp) (hq : ∀ σ', Fr hi_ hi_ σ σ' → MJ σ' D P N L un mk tl dy (fd c 8 (fd b 8 (fd a 8 tp))) → Q (some (.int (nI (fd c 8 (fd b 8 (fd a 8 tp))).length))) σ') : q_Call G (d + 1) 0 0 X_M_feed [.ref 159, .long a, .long b, .long c] σ Q := by
  have w0 := hw.2.2.2.2.2.2.2.2.2
  have hs1 : q_Sh (Th σ) := Th_fr.sh hs
  have hJ1 : MJ (Th σ) D P N L un mk tl dy tp := hJ.th hw
  refine q_enter (by decide +kernel) (Nat.le_of_ble_eq_true rfl) ?_
  refine v_M_feed_0 hs (M_lay_ok hs1 w0 hJ1.2.2.2.2.2.2.2 (fun σ1 f1 g1 => ⟨f1.sh hs1, rfl, ?_⟩))
  refine M_lay_ok (f1.sh hs1) (fd_ok 8 _ w0) g1 (fun σ2 f2 g2 => ⟨f2.sh (f1.sh hs1), rfl, ?_⟩)
  refine M_lay_ok (f2.sh (f1.sh hs1)) (fd_ok 8 _ (fd_ok 8 _ w0)) g2 (fun σ3 f3 g3 => ⟨f3.sh (f2.sh (f1.sh hs1)), rfl, ?_⟩)
  have f4 := (f1.tr f2).tr f3
  dsimp only
  rw [g3.1]
  exact ⟨q_no_i, hq σ3 (Th_fr.tr (f4.hi (fun a i z => by unfold SMp at z; omega) (fun _ _ z => z.elim))) (hJ1.tape hw f4 g3)⟩
end FEED
