def rN (n : Nat) : Nat := (n * 1103515245 + 12345) % 2147483648
def bN (n m : Nat) : Nat := n / 65536 % m
def swpN (r : Nat → Nat) (i j : Nat) : Nat → Nat := fun k => if k = j then r i else if k = i then r j else r k
def shf : Nat → Nat → (Nat → Nat) → Nat × (Nat → Nat)
  | 0, n, r => (n, r)
  | k + 1, n, r => shf k (rN n) (swpN r (k + 1) (bN (rN n) (k + 2)))
theorem rN_lt (n : Nat) : rN n < 2147483648 := Nat.mod_lt _ (by decide)
theorem bN_lt (n : Nat) {m : Nat} (h : 0 < m) : bN n m < m := Nat.mod_lt _ h
def okR (H : Nat) (r : Nat → Nat) : Prop := (∀ k, k < H → r k < H) ∧ ∀ i j, i < H → j < H → r i = r j → i = j
theorem swpN_ok {H i j : Nat} {r : Nat → Nat} (h : okR H r) (hi : i < H) (hj : j < H) : okR H (swpN r i j) := by
  refine ⟨fun k hk => ?_, fun a b ha hb hab => ?_⟩
  · unfold swpN
    split
    · exact h.1 _ hi
    · split
      · exact h.1 _ hj
      · exact h.1 _ hk
  · unfold swpN at hab
    by_cases c1 : a = j <;> by_cases c2 : b = j <;> by_cases c3 : a = i <;> by_cases c4 : b = i <;> simp only [c1, c2, c3, c4, if_true, if_false] at hab <;> first | (have := h.2 _ _ (by omega) (by omega) hab; omega) | omega | (split at hab <;> first | (have := h.2 _ _ (by omega) (by omega) hab; omega) | omega | (split at hab <;> first | (have := h.2 _ _ (by omega) (by omega) hab; omega) | omega))
theorem shf_ok {H : Nat} : ∀ (k n : Nat) (r : Nat → Nat), k < H ∨ k = 0 → okR H r → okR H (shf k n r).2
  | 0, _, _, _, h => h
  | k + 1, n, r, hk, h => by
    rw [shf]
    have hk1 : k + 1 < H := by omega
    refine shf_ok k _ _ (by omega) (swpN_ok h hk1 ?_)
    exact Nat.lt_of_lt_of_le (bN_lt _ (by omega)) (by omega)
theorem shf_lt : ∀ (k n : Nat) (r : Nat → Nat), n < 2147483648 → (shf k n r).1 < 2147483648
  | 0, _, _, h => h
  | k + 1, n, r, _ => shf_lt k _ _ (rN_lt n)
theorem okR_id (H : Nat) : okR H (fun k => k) := ⟨fun _ h => h, fun _ _ _ _ h => h⟩
theorem q_litL (n : Nat) : (OfNat.ofNat n : Int64) = lN n := rfl
theorem rN_eq {n : Nat} (h : n < 2147483648) : (lN n * 1103515245 + 12345) - (lN n * 1103515245 + 12345) / 2147483648 * 2147483648 = lN (rN n) := by
  rw [q_litL 1103515245, q_litL 12345, q_litL 2147483648, lN_mul, lN_add]
  exact pk_lRem (by omega) (by omega) (by omega)
theorem bN_eq {n m : Nat} (h : n < 2147483648) (h0 : 0 < m) (hm : m < 2 ^ 31) : ((lN n / 65536) - (lN n / 65536) / (nI m).toInt64 * (nI m).toInt64).toInt32 = nI (bN n m) := by
  rw [nI_l hm, q_litL 65536, pk_lDiv (by omega) (by omega) (by omega), pk_lRem (by omega) h0 (by omega), lN_i]
  rfl
theorem nz64 {m : Nat} (h0 : 0 < m) (hm : m < 2 ^ 31) : ¬ (nI m).toInt64 = 0 := by
  rw [nI_l hm, q_litL 0, pk_lEQ (by omega) (by omega)]
  omega
def S13 : Nat → Nat → Prop := fun a _ => a = 13
def L12 : Nat → Nat → Prop := fun a i => a = 12 ∧ i = 1
def S178 : Nat → Nat → Prop := fun a _ => a = 178
def L159 : Nat → Nat → Prop := fun a i => a = 159 ∧ i = 28
section DICE
variable {G : q_G} {d : Nat} {σ : q_S} {Q : Option Value → q_S → Prop} {n m H : Nat}
theorem Di_below_ok (hs : q_Sh σ) (hn : q_L σ 12 1 = lN n) (hl : n < 2147483648) (h0 : 0 < m) (hm : m < 2 ^ 31) (hq : Q (some (.int (nI (bN (rN n) m)))) (q_setL σ 12 1 (lN (rN n)))) : q_Call G d 0 0 X_Di_below [.ref 12, .int (nI m)] σ Q := by
  refine q_enter (by decide +kernel) (Nat.le_of_ble_eq_true rfl) ?_
  refine v_Di_below_0 hs ⟨fun _ => ⟨nz64 h0 hm, q_no_i, ?_⟩, fun c => absurd (nI_le (a := 1) (by omega) hm) c⟩
  rw [q_L_eq, hn, rN_eq hl, bN_eq (rN_lt n) h0 hm]
  exact hq
theorem M_below_ok (hs : q_Sh σ) (hn : q_L σ 159 28 = lN n) (hl : n < 2147483648) (h0 : 0 < m) (hm : m < 2 ^ 31) (hq : Q (some (.int (nI (bN (rN n) m)))) (q_setL σ 159 28 (lN (rN n)))) : q_Call G d 0 0 X_M_drawBelow [.ref 159, .int (nI m)] σ Q := by
  refine q_enter (by decide +kernel) (Nat.le_of_ble_eq_true rfl) ?_
  refine v_M_drawBelow_0 hs ⟨nz64 h0 hm, q_no_i, ?_⟩
  rw [q_L_eq, hn, rN_eq hl, bN_eq (rN_lt n) h0 hm]
  exact hq
theorem swp_row {σ : q_S} {a i j H : Nat} {r : Nat → Nat} (hr : ∀ k, k < H → q_I σ a k = nI (r k)) (hi : i < H) (hj : j < H) : ∀ k, k < H → q_I (q_setI (q_setI σ a i (q_I σ a j)) a j (q_I σ a i)) a k = nI (swpN r i j k) := by
  intro k hk
  unfold swpN
  by_cases c1 : k = j
  · subst c1
    rw [q_I_eq, if_pos rfl, hr i hi]
  · rw [q_I_ne (by omega), if_neg c1]
    by_cases c2 : k = i
    · subst c2
      rw [q_I_eq, if_pos rfl, hr j hj]
    · rw [q_I_ne (by omega), if_neg c2, hr k hk]
theorem Di_shuffle_ok (hs : q_Sh σ) (hn : q_L σ 12 1 = lN n) (hl : n < 2147483648) (hH : H ≤ 6) (hq : ∀ σ', Fr S13 L12 σ σ' → (∀ k, k < H → q_I σ' 13 k = nI ((shf (H - 1) n (fun k => k)).2 k)) → q_L σ' 12 1 = lN (shf (H - 1) n (fun k => k)).1 → Q none σ') : q_Call G (d + 1) 0 0 X_Di_shuffle [.ref 12, .int (nI H)] σ Q := by
  refine q_cv0 (P := fun σ' => Fr S13 L12 σ σ' ∧ (∀ k, k < H → q_I σ' 13 k = nI ((shf (H - 1) n (fun k => k)).2 k)) ∧ q_L σ' 12 1 = lN (shf (H - 1) n (fun k => k)).1) (by decide +kernel) (Nat.le_of_ble_eq_true rfl) (fun Q hq => ?_) (fun σ' h => hq σ' h.1 h.2.1 h.2.2)
  refine v_Di_shuffle_0 hs ?_
  have e6 : (if (6 : Int32) < nI H then 6 else nI H) = nI H := if_neg (nI_nlt (a := 6) hH (by omega))
  rw [e6]
  -- the second loop
  have loop2 : ∀ (k n : Nat) (r : Nat → Nat) (σ1 : q_S), k < H → n < 2147483648 → okR H r → q_Sh σ1 → q_L σ1 12 1 = lN n → (∀ j, j < H → q_I σ1 13 j = nI (r j)) → (∀ σ', Fr S13 L12 σ1 σ' → (∀ j, j < H → q_I σ' 13 j = nI ((shf k n r).2 j)) → q_L σ' 12 1 = lN (shf k n r).1 → Q none σ') → q_At G X_Di_shuffle (d + 1) 0 0 31 [some (.ref 12), some (.int (nI H)), some (.int (nI H)), some (.int (nI k)), none, none] [] σ1 Q := by
    intro k
    induction k with
    | zero =>
      intro n r σ1 _ _ _ hs1 h1 h2 h3
      exact v_Di_shuffle_31 hs1 ⟨fun _ => h3 σ1 Fr.rf h2 h1, fun c => absurd (by decide) c⟩
    | succ k ih =>
      intro n r σ1 hk hn1 hr hs1 h1 h2 h3
      refine v_Di_shuffle_31 hs1 ⟨fun c => by rw [le0_iff (by omega)] at c; omega, fun _ => ?_⟩
      have hb : bN (rN n) (k + 2) < k + 2 := bN_lt _ (by omega)
      rw [nI_1]
      refine Di_below_ok hs1 h1 hn1 (by omega) (by omega) ⟨hs1, _, rfl, k + 1, rfl, by omega, bN (rN n) (k + 2), rfl, by omega, k + 1, rfl, by omega, bN (rN n) (k + 2), rfl, by omega, ?_⟩
      rw [m1I]
      refine ih (rN n) (swpN r (k + 1) (bN (rN n) (k + 2))) _ (by omega) (rN_lt n) (swpN_ok hr hk (by omega)) hs1 q_L_eq ?_ ?_
      · exact swp_row (σ := q_setL σ1 12 1 (lN (rN n))) h2 hk (by omega)
      · intro σ' f1 g1 g2
        refine h3 σ' (Fr.tr (Fr.setL ⟨rfl, rfl⟩) (Fr.tr (Fr.setI rfl) (Fr.tr (Fr.setI rfl) f1))) g1 g2
  -- the first
  refine up_ind (R := fun k => ∀ σ1, Fr S13 L12 σ σ1 → q_L σ1 12 1 = lN n → (∀ j, j < k → q_I σ1 13 j = nI j) → q_At G X_Di_shuffle (d + 1) 0 0 9 [some (.ref 12), some (.int (nI H)), some (.int (nI H)), some (.int (nI k)), none, none] [] σ1 Q) (n := H) (fun σ1 hf h1 h2 => ?_) (fun k hk ih σ1 hf h1 h2 => ?_) 0 (Nat.zero_le _) σ Fr.rf hn (fun j hj => absurd hj (Nat.not_lt_zero j))
  · refine v_Di_shuffle_9 (hf.sh hs) ⟨fun _ => ?_, fun c => absurd (Int32.le_refl _) c⟩
    rcases Nat.eq_zero_or_pos H with z | z
    · subst z
      refine v_Di_shuffle_31 (hf.sh hs) ⟨fun _ => hq σ1 ⟨hf, fun k hk => absurd hk (Nat.not_lt_zero k), h1⟩, fun c => absurd (by decide) c⟩
    · have := loop2 (H - 1) n (fun k => k) σ1 (by omega) hl (okR_id H) (hf.sh hs) h1 h2 (fun σ' f1 g1 g2 => hq σ' ⟨hf.tr f1, g1, g2⟩)
      rw [show nI H - 1 = nI (H - 1) by rw [show H = H - 1 + 1 by omega, nI_pred]; rfl]
      exact this
  · refine v_Di_shuffle_9 (hf.sh hs) ⟨fun c => ge_not c hk (by omega), fun _ => ⟨k, rfl, by omega, ?_⟩⟩
    rw [nI_1]
    refine ih _ (hf.tr (Fr.setI rfl)) h1 (fun j hj => ?_)
    by_cases c : j = k
    · subst c; exact q_I_eq
    · rw [q_I_ne (by omega)]; exact h2 j (by omega)
end DICE
