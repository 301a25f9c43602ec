def lo_ : Nat → Nat → Prop := fun a _ => a < 159
def hi_ : Nat → Nat → Prop := fun a _ => 159 ≤ a
def CJ (σ : q_S) (t p : Nat) (D : Nat → Nat) (P : Nat → List Int32) (N : q_nm) (L : Nat → Int32) (un : List q_lf) (mk : Nat → Option (q_lf × q_tl)) (tl : q_tl) (dy : q_dy) (tp : List Nat) : Prop := CJ0 σ t p D P N L un mk tl dy tp ∧ WK σ D P
def isN (F : Nat) (x : Int32) : Int32 := if x < 0 then 0 else if nI F ≤ x then 0 else 1
def twoN (F : Nat) (x y : Int32) : Int32 := if isN F x = 0 then 0 else if isN F y = 0 then 0 else if x = y then 0 else 1
def inN (lo x hi : Int32) : Int32 := if x < lo then 0 else if hi < x then 0 else 1
theorem isN_01 (F : Nat) (x : Int32) : isN F x = 0 ∨ isN F x = 1 := by
  unfold isN
  split
  · exact Or.inl rfl
  · split
    · exact Or.inl rfl
    · exact Or.inr rfl
theorem isN_s {F : Nat} {x : Int32} (hF : F < 2 ^ 31) (h : ¬ isN F x = 0) : ∃ f, f < F ∧ x = nI f := by
  unfold isN at h
  by_cases c : x < 0
  · rw [if_pos c] at h; exact absurd rfl h
  · rw [if_neg c] at h
    by_cases c2 : nI F ≤ x
    · rw [if_pos c2] at h; exact absurd rfl h
    · obtain ⟨j, h1, h2⟩ := nI_of c
      subst h2
      rw [nI_leI hF h1] at c2
      exact ⟨j, by omega, rfl⟩
theorem isN_y {F f : Nat} (hF : F < 2 ^ 31) (h : f < F) : isN F (nI f) = 1 := by
  unfold isN
  rw [if_neg (nI_pos (by omega)), if_neg (nI_ge h hF)]
theorem twoN_s {F : Nat} {x y : Int32} (hF : F < 2 ^ 31) (h : ¬ twoN F x y = 0) : ∃ f e, f < F ∧ e < F ∧ f ≠ e ∧ x = nI f ∧ y = nI e := by
  unfold twoN at h
  by_cases c : isN F x = 0
  · rw [if_pos c] at h; exact absurd rfl h
  · rw [if_neg c] at h
    by_cases c2 : isN F y = 0
    · rw [if_pos c2] at h; exact absurd rfl h
    · rw [if_neg c2] at h
      by_cases c3 : x = y
      · rw [if_pos c3] at h; exact absurd rfl h
      · obtain ⟨f, a1, a2⟩ := isN_s hF c
        obtain ⟨e, b1, b2⟩ := isN_s hF c2
        exact ⟨f, e, a1, b1, fun z => c3 (by rw [a2, b2, z]), a2, b2⟩
theorem inN_s {lo hi : Nat} {x : Int32} (hh : hi < 2 ^ 31) (hl : lo ≤ hi) (h : ¬ inN (nI lo) x (nI hi) = 0) : ∃ n, lo ≤ n ∧ n ≤ hi ∧ x = nI n := by
  unfold inN at h
  by_cases c : x < nI lo
  · rw [if_pos c] at h; exact absurd rfl h
  · rw [if_neg c] at h
    by_cases c2 : nI hi < x
    · rw [if_pos c2] at h; exact absurd rfl h
    · have c3 : ¬ x < 0 := fun z => c (Int32.lt_of_lt_of_le z (nI_pos' (by omega)))
      obtain ⟨j, h1, h2⟩ := nI_of c3
      subst h2
      rw [nI_ltI h1 (by omega)] at c
      rw [nI_ltI hh h1] at c2
      exact ⟨j, by omega, by omega, rfl⟩
section HELP
variable {G : q_G} {d : Nat} {σ σ' : q_S} {Q : Option Value → q_S → Prop} {t p : Nat} {D : Nat → Nat} {P : Nat → List Int32} {N : q_nm} {hm : Nat → Nat} {L : Nat → Int32} {un : List q_lf} {mk : Nat → Option (q_lf × q_tl)} {tl : q_tl} {dy : q_dy} {tp : List Nat} {x y : Int32}
theorem W_isHouse_ok (hs : q_Sh σ) (hJ : CJ0 σ t p D P N L un mk tl dy tp) (hq : Q (some (.int (isN (D 0) x))) σ) : q_Call G d 0 0 X_W_isHouse [.ref 0, .int x] σ Q := by
  refine q_ci (by decide +kernel) (Nat.le_of_ble_eq_true rfl) (fun Q hq => ?_) hq
  refine v_W_isHouse_0 hs ⟨fun c => ?_, fun c => ⟨t, hJ.1.1, hJ.1.2.1, ?_⟩⟩
  · rw [isN, if_pos c] at hq; exact hq
  · rw [isN, if_neg c] at hq
    rw [hJ.2.2.1.1.1.1]
    exact ⟨q_nb10, hq⟩
theorem W_isFamily_ok (hs : q_Sh σ) (hJ : CJ0 σ t p D P N L un mk tl dy tp) (hq : Q (some (.int (isN (D 1) x))) σ) : q_Call G d 0 0 X_W_isFamily [.ref 0, .int x] σ Q := by
  refine q_ci (by decide +kernel) (Nat.le_of_ble_eq_true rfl) (fun Q hq => ?_) hq
  refine v_W_isFamily_0 hs ⟨fun c => ?_, fun c => ⟨t, hJ.1.1, hJ.1.2.1, ?_⟩⟩
  · rw [isN, if_pos c] at hq; exact hq
  · rw [isN, if_neg c] at hq
    rw [hJ.2.2.1.1.1.2.1]
    exact ⟨q_nb10, hq⟩
theorem W_areTwo_ok (hs : q_Sh σ) (hJ : CJ0 σ t p D P N L un mk tl dy tp) (hq : Q (some (.int (twoN (D 1) x y))) σ) : q_Call G (d + 1) 0 0 X_W_areTwo [.ref 0, .int x, .int y] σ Q := by
  refine q_ci (by decide +kernel) (Nat.le_of_ble_eq_true rfl) (fun Q hq => ?_) hq
  refine v_W_areTwo_0 hs (W_isFamily_ok hs hJ ⟨hs, _, rfl, fun c => ?_, fun c => ?_⟩)
  · rw [twoN, if_pos c] at hq; exact hq
  · rw [twoN, if_neg c] at hq
    refine W_isFamily_ok hs hJ ⟨hs, _, rfl, ?_, hq⟩
    split
    · rfl
    · exact q_nb10
theorem W_isSeed_ok (hs : q_Sh σ) (hq : Q (some (.int (inN 0 x 9999))) σ) : q_Call G d 0 0 X_W_isSeed [.int x] σ Q := by
  refine q_ci (by decide +kernel) (Nat.le_of_ble_eq_true rfl) (fun Q hq => ?_) hq
  refine v_W_isSeed_0 hs ⟨?_, hq⟩
  split
  · rfl
  · exact q_nb10
theorem W_isSum_ok (hs : q_Sh σ) (hq : Q (some (.int (inN 1 x 999))) σ) : q_Call G d 0 0 X_W_isSum [.int x] σ Q := by
  refine q_ci (by decide +kernel) (Nat.le_of_ble_eq_true rfl) (fun Q hq => ?_) hq
  refine v_W_isSum_0 hs ⟨?_, hq⟩
  split
  · rfl
  · exact q_nb10
theorem W_sum_ok {a n : Nat} (ha : q_kd a = (1, n)) (hn : n < 2 ^ 31) (hs : q_Sh σ) (hq : Q (some (.int (bx_sum (q_I σ a) n))) σ) : q_Call G d 0 0 X_W_sum [.ref a] σ Q := by
  refine q_ci (by decide +kernel) (Nat.le_of_ble_eq_true rfl) (fun Q hq => ?_) hq
  refine v_W_sum_0 ha hn hs ?_
  refine up_ind (R := fun k => q_At G X_W_sum d 0 0 4 [some (.ref a), some (.int (bx_sum (q_I σ a) k)), some (.int (nI k))] [] σ Q) (n := n) ?_ (fun k hk ih => ?_) 0 (Nat.zero_le _)
  · exact v_W_sum_4 ha hn hs ⟨fun _ => hq, fun c => absurd (Int32.le_refl _) c⟩
  · refine v_W_sum_4 ha hn hs ⟨fun c => ge_not c hk hn, fun _ => ⟨k, rfl, hk, ?_⟩⟩
    rw [nI_1]
    exact ih
theorem M_isHouse_ok (hs : q_Sh σ) (hT : MT0 σ D P) (hq : Q (some (.int (isN (D 0) x))) σ) : q_Call G (d + 1) 0 0 X_M_isHouse [.ref 159, .int x] σ Q := by
  refine q_ci (by decide +kernel) (Nat.le_of_ble_eq_true rfl) (fun Q hq => ?_) hq
  refine v_M_isHouse_0 hs ⟨fun c => ?_, fun c => ?_⟩
  · rw [isN, if_pos c] at hq; exact hq
  · rw [isN, if_neg c] at hq
    rw [hT.H]
    exact ⟨q_nb10, hq⟩
theorem M_isFamily_ok (hs : q_Sh σ) (hT : MT0 σ D P) (hq : Q (some (.int (isN (D 1) x))) σ) : q_Call G (d + 1) 0 0 X_M_isFamily [.ref 159, .int x] σ Q := by
  refine q_ci (by decide +kernel) (Nat.le_of_ble_eq_true rfl) (fun Q hq => ?_) hq
  refine v_M_isFamily_0 hs ⟨fun c => ?_, fun c => ?_⟩
  · rw [isN, if_pos c] at hq; exact hq
  · rw [isN, if_neg c] at hq
    rw [hT.F]
    exact ⟨q_nb10, hq⟩
theorem M_areTwo_ok (hs : q_Sh σ) (hT : MT0 σ D P) (hq : Q (some (.int (twoN (D 1) x y))) σ) : q_Call G (d + 2) 0 0 X_M_areTwo [.ref 159, .int x, .int y] σ Q := by
  refine q_ci (by decide +kernel) (Nat.le_of_ble_eq_true rfl) (fun Q hq => ?_) hq
  refine v_M_areTwo_0 hs (M_isFamily_ok hs hT ⟨hs, _, rfl, fun c => ?_, fun c => ?_⟩)
  · rw [twoN, if_pos c] at hq; exact hq
  · rw [twoN, if_neg c] at hq
    refine M_isFamily_ok hs hT ⟨hs, _, rfl, ?_, hq⟩
    split
    · rfl
    · exact q_nb10
theorem M_within_ok {lo hi : Int32} (hs : q_Sh σ) (hq : Q (some (.int (inN lo x hi))) σ) : q_Call G d 0 0 X_M_within [.int x, .int lo, .int hi] σ Q := by
  refine q_ci (by decide +kernel) (Nat.le_of_ble_eq_true rfl) (fun Q hq => ?_) hq
  refine v_M_within_0 hs ⟨?_, hq⟩
  split
  · rfl
  · exact q_nb10
-- 'thrown' is put to nothing
abbrev Th (σ : q_S) : q_S := q_setI σ 159 0 0
theorem Th_fr : Fr hi_ hi_ σ (Th σ) := Fr.setI (by unfold hi_; omega)
theorem MJ.th (hw : WJ D P N hm L un mk tl dy tp) (h : MJ σ D P N L un mk tl dy tp) {v : Int32} : MJ (q_setI σ 159 0 v) D P N L un mk tl dy tp := h.fr (SI := fun a i => a = 159 ∧ i = 0) (SL := noL) hw (Fr.setI ⟨rfl, rfl⟩) (fun a i z => by unfold mj; omega) (fun a i z => z.elim)
theorem MJ.thr (h : q_I (q_setI σ 159 0 0) 159 0 = 0) : True := trivial
end HELP
