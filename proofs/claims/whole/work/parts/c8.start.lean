-- the first state
theorem frz_in : ∀ x ∈ q_frz, x ∈ fsM := by decide +kernel
theorem fs_12 : (0, 12, 27) ∈ fsM ∧ (0, 13, 46) ∈ fsM ∧ (0, 14, 65) ∈ fsM ∧ (0, 15, 70) ∈ fsM := by decide +kernel
theorem fs_lt : ∀ x ∈ fsM, x.1 < 182 := by decide +kernel
theorem clc_le {v i : Nat} : (clc v i).1 ≤ v + 3 := by
  unfold clc
  repeat' split
  all_goals (dsimp only; omega)
theorem WJ_0 {hm : Nat → Nat} {L : Nat → Int32} (hL : ∀ i, i < 6 → L (6 + i) = 0) : WJ D00 dflt [] hm L [] noM [] [] [] := by
  obtain ⟨w1, w2, w3, w4, w5⟩ := WS_0
  refine ⟨w1, w5, w2, w3, ⟨fun f h => absurd h (Nat.not_lt_zero f), fun f e h => absurd h (Nat.not_lt_zero f), fun i h _ => hL i h⟩, ⟨Nat.zero_le _, fun u h => absurd h List.not_mem_nil⟩, fun m hm x h => (by cases h), ⟨Nat.zero_le _, fun u h => absurd h List.not_mem_nil⟩, ⟨Nat.zero_le _, fun u h => absurd h List.not_mem_nil⟩, ⟨Nat.zero_le _, fun u h => absurd h List.not_mem_nil⟩⟩
theorem stL_0 {i : Nat} (h : 6 ≤ i) : stL D00 i = 0 := by
  unfold stL
  rw [if_neg (by omega)]
  split
  · rw [if_neg (by show ¬ _ < 0; omega)]
  · split
    · exact nI_0
    · rfl
theorem Inv_0 {σ : q_S} (h : M00 σ) : Inv (q_new σ) := by
  obtain ⟨⟨n1, n2, n3, n4⟩, m1, m2, m3, m4, m5, m6, m7, m8, m9⟩ := h
  have kI : ∀ a i, a < 182 → q_I (q_new σ) a i = q_I σ a i := fun a i ha => by rw [q_new_I, if_neg (by omega)]
  have kL : ∀ a i, a < 182 → q_L (q_new σ) a i = q_L σ a i := fun a i ha => by rw [q_new_L, if_neg (by omega)]
  have kR : ∀ x ∈ fsM, q_R (q_new σ) x.1 x.2.1 = some x.2.2 := fun x hx => by rw [q_new_R, if_neg (by have := fs_lt x hx; omega)]; exact n2 x hx
  have zI : ∀ a i, a < 159 → q_I (q_new σ) a i = nI 0 := fun a i ha => by rw [kI a i (by omega), n3 a i ha, nI_0]
  have zL : ∀ a i, a < 159 → q_L (q_new σ) a i = 0 := fun a i ha => by rw [kL a i (by omega), n4 a i ha]
  obtain ⟨r1, r2, r3, r4⟩ := fs_12
  refine ⟨⟨by rw [q_new_n, n1]; rfl, fun x hx => kR x (frz_in x hx)⟩, 27, 65, D00, dflt, [], fun _ => 0, fun _ => 0, [], noM, stL D00, [], noM, [], [], [], WJ_0 (fun i _ => rfl), WJ_0 (fun i _ => stL_0 (by omega)), ⟨⟨⟨kR _ r1, by unfold q_isTw; decide, 46, kR _ r2, by unfold q_isTw; decide, by decide⟩, ⟨kR _ r3, by unfold q_isDy; decide, 70, kR _ r4, by unfold q_isDy; decide, by decide⟩, ?_, fun x hx => absurd hx List.not_mem_nil, fun i hi => ?_, ⟨0, by decide, zI _ _ (by decide), zI _ _ (by decide), fun i u hu => by cases hu⟩, fun m hm => ⟨fun _ => zI _ _ (by decide), fun x hx => by cases hx⟩, ⟨zL _ _ (by decide), zL _ _ (by decide), zI _ _ (by decide)⟩, ⟨zI _ _ (by decide), fun k x hx => by cases hx⟩, ⟨zI _ _ (by decide), fun k x hx => by cases hx⟩⟩, Or.inl (zI _ _ (by decide))⟩, ?_, Or.inr ⟨rfl, fun i hi => (stL_0 hi).symm, trivial, fun m => Or.inl ⟨rfl, rfl⟩⟩⟩
  · refine ⟨⟨⟨zI _ _ (by decide), zI _ _ (by decide), zI _ _ (by decide), zI _ _ (by decide), zI _ _ (by decide)⟩, fun i _ => zI _ _ (by decide), fun f hf => absurd hf (Nat.not_lt_zero f), fun i _ => ⟨zI _ _ (by decide), zI _ _ (by decide), zI _ _ (by decide)⟩, fun k hk => absurd hk (Nat.not_lt_zero k), fun k hk => absurd hk (Nat.not_lt_zero k), fun w _ h => absurd h (Nat.not_lt_zero 0)⟩, fun f e k hf => absurd hf (Nat.not_lt_zero f)⟩
  · have := clc_le (v := 15) (i := i)
    rw [zI _ _ (by omega)]
    rfl
  · refine ⟨m2.keep' (fun a i z => kI a i (by unfold mj at z; omega)), ⟨⟨by rw [kI _ _ (by decide)]; exact m8, fun k hk => by rw [kL _ _ (by decide)]; exact m1 k hk⟩, fun k x hx => by cases hx⟩, m3.keep (fun i _ _ => kI _ _ (by decide)), ⟨by rw [kI _ _ (by decide)]; exact m6, fun i u hu => by cases hu⟩, fun m hm => ⟨fun _ => by rw [kI _ _ (by decide)]; exact m7 m hm, fun x hx => by cases hx⟩, ⟨by rw [kI _ _ (by decide)]; exact m4, fun k x hx => by cases hx⟩, ⟨by rw [kI _ _ (by decide)]; exact m5, fun k x hx => by cases hx⟩, ⟨by rw [kI _ _ (by decide)]; exact m9, fun k x hx => by cases hx⟩⟩
