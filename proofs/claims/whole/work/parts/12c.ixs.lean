-- the place of a sign in the text of signs
def q_ixf (b : Int32) : List Int32 → Nat → Int32
  | [], _ => -1
  | x :: l, k => if x = b then nI k else q_ixf b l (k + 1)
def q_ixs (c : Int32) : Int32 := q_ixf c q_sgn 0
theorem q_ixs_b : ∀ n, n < 256 → q_ixf (nI n).toInt8.toInt32 q_sgn 0 = q_ixf (nI n) q_sgn 0 := by decide +kernel
theorem q_ixf_no {c : Int32} : ∀ (l : List Int32) (k : Nat), (∀ x ∈ l, x ≠ c) → q_ixf c l k = -1
  | [], _, _ => rfl
  | x :: l, k, h => by rw [q_ixf, if_neg (h x List.mem_cons_self)]; exact q_ixf_no l (k + 1) (fun y hy => h y (List.mem_cons_of_mem _ hy))
theorem q_sgn_in : ∀ x ∈ q_sgn, ¬ x < 0 ∧ ¬ 255 < x := by decide +kernel
theorem q_sgn_drop : ∀ k, k < 8 → q_sgn.drop k = q_sgn.getD k 0 :: q_sgn.drop (k + 1) := by decide +kernel
theorem JL_ixLoop {G : q_G} {d : Nat} {σ : q_S} {Q : Option Value → q_S → Prop} {p1 p2 b : Int32} (hs : q_Sh σ) : ∀ (n k : Nat), k + n = 8 → Q (some (.int (q_ixf b (q_sgn.drop k) k))) σ → q_At G X_JL_indexOfChar (d + 1) 0 0 7 [some (.ref 1044), some (.int p1), some (.int p2), some (.int (nI 8)), some (.int b), some (.int (nI k))] [] σ Q
  | 0, k, hk, h => by
    have e : k = 8 := by omega
    subst e
    exact v_JL_indexOfChar_7 hs ⟨fun _ => h, fun c => absurd (by decide) c⟩
  | n + 1, k, hk, h => by
    rw [q_sgn_drop k (by omega), q_ixf] at h
    refine v_JL_indexOfChar_7 hs ⟨fun c => absurd c (nI_ge (by omega) (by omega)), fun _ => ⟨k, rfl, by omega, fun c => ?_, fun c => ?_⟩⟩
    · rw [if_neg c] at h
      rw [nI_1]
      exact JL_ixLoop hs n (k + 1) (by omega) h
    · rw [if_pos c] at h
      exact h
theorem JL_indexOf_ok {G : q_G} {d : Nat} {σ : q_S} {c : Int32} {Q : Option Value → q_S → Prop} (hs : q_Sh σ) (h : Q (some (.int (q_ixs c))) σ) : q_Call G (d + 2) 0 0 X_JL_indexOf [.ref 1044, .int c, .int 0, .int (nI 8)] σ Q := by
  refine q_ci (v := q_ixs c) (by decide +kernel) (Nat.le_of_ble_eq_true rfl) (fun Q hq => ?_) h
  refine v_JL_indexOf_0 hs ?_
  refine q_ci (v := if c < 0 then (0 : Int32) else (if 255 < c then (0 : Int32) else (1 : Int32))) (by decide +kernel) (Nat.le_of_ble_eq_true rfl) (fun Q2 hq2 => v_JL_canEncode_0 hs ⟨by split <;> first | rfl | (split <;> rfl), hq2⟩) ⟨hs, _, rfl, fun hc => ⟨fun _ => ?_, fun cc => absurd (by decide) cc⟩, fun hc => ?_⟩
  · have h1 : ¬ c < 0 := fun e => by rw [if_pos e] at hc; exact hc rfl
    rw [if_neg h1] at hc
    have h2 : ¬ 255 < c := fun e => by rw [if_pos e] at hc; exact hc rfl
    obtain ⟨n, hn, rfl⟩ := nI_of2 (M := 255) (n := 255) rfl h1 (Int32.not_lt.mp h2)
    refine q_ci (v := q_ixs (nI n)) (by decide +kernel) (Nat.le_of_ble_eq_true rfl) (fun Q2 hq2 => ?_) ⟨hs, _, rfl, hq⟩
    refine v_JL_indexOfChar_0 hs ?_
    exact JL_ixLoop (b := (nI n).toInt8.toInt32) hs 8 0 rfl (by rw [List.drop_zero, q_ixs_b n (by omega)]; exact hq2)
  · have h3 : q_ixs c = -1 := by
      refine q_ixf_no _ _ (fun x hx e => ?_)
      obtain ⟨g1, g2⟩ := q_sgn_in x hx
      subst e
      rw [if_neg g1, if_neg g2] at hc
      exact absurd hc (by decide)
    rw [h3] at hq
    exact hq
theorem JS_indexOf_ok {G : q_G} {d : Nat} {σ : q_S} {c : Int32} (hs : q_Sh σ) : q_Call G (d + 4) 0 0 X_JS_indexOf [.ref 1043, .int c] σ (fun r σ1 => r = some (.int (q_ixs c)) ∧ σ1 = σ) := by
  refine q_ci (v := q_ixs c) (by decide +kernel) (Nat.le_of_ble_eq_true rfl) (fun Q hq => ?_) ⟨rfl, rfl⟩
  refine v_JS_indexOf_0 hs ?_
  refine q_ci (v := q_ixs c) (by decide +kernel) (Nat.le_of_ble_eq_true rfl) (fun Q hq => ?_) ⟨hs, _, rfl, hq⟩
  refine v_JS_indexOf_5_0 hs ?_
  refine JS_isLatin1_ok hs ⟨hs, _, rfl, fun cc => absurd cc (by decide), fun _ => ?_⟩
  refine JS_length_ok (d := d) hs ⟨hs, _, rfl, ?_⟩
  exact JL_indexOf_ok (d := d) hs ⟨hs, _, rfl, hq⟩
theorem q2_ord {G : q_G} {X : q_M} {d pc nx idx k : Nat} {x : MethodName} {ls : List (Option Value)} {st : List Value} {σ : q_S} {Q : Option Value → q_S → Prop} (hs : q_Sh σ) (hd : q_D X pc (.invokevirtual idx) 3 nx) (hC : q_CU (m_y X).cls idx x X_JE_ordinal "WallLottery$Word") (hk : k < 34) (hst : q_cats st ≤ 8) (kk : q_At G X (d + 1) 0 0 nx ls (.int (nI k) :: st) σ Q) : q_At G X (d + 1) 0 0 pc ls (.ref (1001 + k) :: st) σ Q :=
  q_callU (b := 0) (sb := 0) (b1 := 0) (sb1 := 0) hd hC (fun U H hh => by rw [q_ad_ge (by omega)]; exact (hh.1 _ hk).2.1) hst (JE_ordinal_ok hk hs) (fun r σ1 hr => by obtain ⟨rfl, rfl⟩ := hr; exact ⟨q_no_i, q_nNT hs, kk⟩)
theorem q2_ixs {G : q_G} {X : q_M} {d pc nx idx : Nat} {c : Int32} {ls : List (Option Value)} {st : List Value} {σ : q_S} {Q : Option Value → q_S → Prop} (hs : q_Sh σ) (hd : q_D X pc (.invokevirtual idx) 3 nx) (hC : q_CW (m_y X).cls idx X_JS_indexOf 1) (hst : q_cats st ≤ 8) (kk : q_At G X (d + 5) 0 0 nx ls (.int (q_ixs c) :: st) σ Q) : q_At G X (d + 5) 0 0 pc ls (.int c :: .ref 1043 :: st) σ Q :=
  q_callW (b := 0) (sb := 0) (b1 := 0) (sb1 := 0) (As := [.int c]) hd hC (fun U H hh => hh.2.2.2.2.2.2.1.2.1) rfl hst (JS_indexOf_ok (d := d) hs) (fun r σ1 hr => by obtain ⟨rfl, rfl⟩ := hr; exact ⟨q_no_i, q_nNT hs, kk⟩)
