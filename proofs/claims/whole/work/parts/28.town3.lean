section TOWN3
variable {G : q_G} {d : Nat} {σ : q_S} {Q : Option Value → q_S → Prop} {t h b : Nat} {D hm : Nat → Nat} {P : Nat → List Int32}
theorem prow_low {f lo : Nat} : ∀ n, n ≤ lo → prow D hm f lo n = 0
  | 0, _ => rfl
  | n + 1, hn => by rw [prow, prow_low n (by omega), if_neg (by omega), or0L]
theorem orL0 (x : Int64) : 0 ||| x = x := by
  apply Int64.toBitVec_inj.mp
  simp
theorem orL_assoc (x y z : Int64) : x ||| y ||| z = x ||| (y ||| z) := by
  apply Int64.toBitVec_inj.mp
  simp [BitVec.or_assoc]
theorem Tw_pairs_ok (ht : q_isTw t) (hp : q_kd h = (1, 6)) (hs : q_Sh σ) (hD : WfD D) (hT : CT0 σ t D P) (hh : HM σ h D hm) (hq : Q (some (.long (prs D hm))) σ) : q_Call G (d + 3) 0 0 X_Tw_pairsOf [.ref t, .ref h] σ Q := by
  have h6 := hD.F6
  refine q_cl64 (by decide +kernel) (Nat.le_of_ble_eq_true rfl) (fun Q hq => ?_) hq
  refine v_Tw_pairsOf_0 ht hp hs ?_
  refine up_ind (R := fun k => q_At G X_Tw_pairsOf (d + 3) 0 0 5 [some (.ref t), some (.ref h), some (.long (bx_orL (fun f => prow D hm f (f + 1) (D 1)) k)), none, some (.int (nI k)), none] [] σ Q) (n := D 1) ?_ (fun k hk ih => ?_) 0 (Nat.zero_le _)
  · exact v_Tw_pairsOf_5 ht hs ⟨fun _ => hq, fun c => absurd (by rw [hT.1.2.1]; exact Int32.le_refl _) c⟩
  · refine v_Tw_pairsOf_5 ht hs ⟨fun c => by rw [hT.1.2.1] at c; exact ge_not c hk (by omega), fun _ => ?_⟩
    rw [nI_1]
    have inner := up_ind (R := fun e => k + 1 ≤ e → q_At G X_Tw_pairsOf (d + 3) 0 0 20 [some (.ref t), some (.ref h), some (.long (bx_orL (fun f => prow D hm f (f + 1) (D 1)) k ||| prow D hm k (k + 1) e)), none, some (.int (nI k)), some (.int (nI e))] [] σ Q) (n := D 1) (fun _ => ?_) (fun e he ih2 hle => ?_) (k + 1) (by omega) (by omega)
    · rw [prow_low _ (Nat.le_refl _), or0L] at inner
      exact inner
    · rw [bx_orL, ← nI_1] at ih
      exact v_Tw_pairsOf_20 ht hs ⟨fun _ => ih, fun c => absurd (by rw [hT.1.2.1]; exact Int32.le_refl _) c⟩
    · have ih2 := ih2 (by omega)
      rw [prow, if_pos hle, ← nI_1] at ih2
      refine v_Tw_pairsOf_20 ht hs ⟨fun c => by rw [hT.1.2.1] at c; exact ge_not c he (by omega), fun _ => ?_⟩
      refine Tw_near_ok ht hp hs hD hT hh hk he ⟨hs, _, rfl, fun c => ?_, fun c => ?_⟩
      · rw [if01] at c
        rw [if_pos c, or0L] at ih2
        exact ih2
      · rw [if01] at c
        rw [if_neg c, ← orL_assoc] at ih2
        exact W_pairBit_ok hs (by omega) (by omega) ⟨hs, _, rfl, ih2⟩
def brkm (D : Nat → Nat) (x : Int64) : Int32 := bx_orI (bx_or (fun k => if x &&& pbit (D (176 + 2 * k)) (D (177 + 2 * k)) = 0 then 0 else (1 : Int32) <<< (nI k &&& 31)) (D 3)) (fun k => if x &&& pbit (D (184 + 2 * k)) (D (185 + 2 * k)) = 0 then (1 : Int32) <<< (nI (4 + k) &&& 31) else 0) (D 4)
theorem bx_or_cong {f g : Nat → Int32} : ∀ {n : Nat}, (∀ k, k < n → f k = g k) → bx_or f n = bx_or g n
  | 0, _ => rfl
  | n + 1, h => by rw [bx_or, bx_or, bx_or_cong (fun k hk => h k (by omega)), h n (by omega)]
theorem bx_orI_cong {x : Int32} {f g : Nat → Int32} : ∀ {n : Nat}, (∀ k, k < n → f k = g k) → bx_orI x f n = bx_orI x g n
  | 0, _ => rfl
  | n + 1, h => by rw [bx_orI, bx_orI, bx_orI_cong (fun k hk => h k (by omega)), h n (by omega)]
theorem brkm_prs (hD : WfD D) (hh : ∀ f, f < D 1 → hm f < D 0) : brkm D (prs D hm) = brk D hm := by
  unfold brkm brk
  have e1 : ∀ k, k < D 3 → ((prs D hm &&& pbit (D (176 + 2 * k)) (D (177 + 2 * k)) = 0) ↔ thk D hm (D (176 + 2 * k)) (D (177 + 2 * k)) = 0) := fun k hk => by
    obtain ⟨g1, g2, g3⟩ := hD.2.2.2.2.2.2.2.2.2.1 k hk
    exact prs_and hD hh g1 g2 g3
  have e2 : ∀ k, k < D 4 → ((prs D hm &&& pbit (D (184 + 2 * k)) (D (185 + 2 * k)) = 0) ↔ thk D hm (D (184 + 2 * k)) (D (185 + 2 * k)) = 0) := fun k hk => by
    obtain ⟨g1, g2, g3⟩ := hD.2.2.2.2.2.2.2.2.2.2 k hk
    exact prs_and hD hh g1 g2 g3
  rw [bx_or_cong (g := fun k => if thk D hm (D (176 + 2 * k)) (D (177 + 2 * k)) = 0 then 0 else (1 : Int32) <<< (nI k &&& 31)) (fun k hk => by simp only [e1 k hk])]
  exact bx_orI_cong (fun k hk => by simp only [e2 k hk])
theorem Tw_broken_ok {x : Int64} (ht : q_isTw t) (hs : q_Sh σ) (hD : WfD D) (hT : CT0 σ t D P) (hq : Q (some (.int (brkm D x))) σ) : q_Call G d 0 0 X_Tw_brokenBy [.ref t, .long x] σ Q := by
  have n3 := hD.2.2.1
  have n4 := hD.2.2.2.1
  refine q_ci (by decide +kernel) (Nat.le_of_ble_eq_true rfl) (fun Q hq => ?_) hq
  refine v_Tw_brokenBy_0 ht hs ?_
  refine up_ind (R := fun k => q_At G X_Tw_brokenBy d 0 0 5 [some (.ref t), some (.long x), none, some (.int (bx_or (fun k => if x &&& pbit (D (176 + 2 * k)) (D (177 + 2 * k)) = 0 then 0 else (1 : Int32) <<< (nI k &&& 31)) k)), some (.int (nI k))] [] σ Q) (n := D 3) ?_ (fun k hk ih => ?_) 0 (Nat.zero_le _)
  · refine v_Tw_brokenBy_5 ht hs ⟨fun _ => ?_, fun c => absurd (by rw [hT.1.2.2.2.1]; exact Int32.le_refl _) c⟩
    refine up_ind (R := fun k => q_At G X_Tw_brokenBy d 0 0 44 [some (.ref t), some (.long x), none, some (.int (bx_orI (bx_or (fun k => if x &&& pbit (D (176 + 2 * k)) (D (177 + 2 * k)) = 0 then 0 else (1 : Int32) <<< (nI k &&& 31)) (D 3)) (fun k => if x &&& pbit (D (184 + 2 * k)) (D (185 + 2 * k)) = 0 then (1 : Int32) <<< (nI (4 + k) &&& 31) else 0) k)), some (.int (nI (4 + k)))] [] σ Q) (n := D 4) ?_ (fun k hk ih => ?_) 0 (Nat.zero_le _)
    · exact v_Tw_brokenBy_44 ht hs ⟨fun _ => hq, fun c => absurd (by rw [hT.1.2.2.2.2, q_lit 4, nI_add]; exact Int32.le_refl _) c⟩
    · rw [bx_orI, show 4 + (k + 1) = 4 + k + 1 by omega, ← nI_1] at ih
      refine v_Tw_brokenBy_44 ht hs ⟨fun c => by rw [hT.1.2.2.2.2, q_lit 4, nI_add] at c; exact ge_not c (by omega) (by omega), fun _ => ⟨4 + k, rfl, by omega, fun c => ?_, fun c => ?_⟩⟩
      · rw [cmp0, hT.2.2.2.2.2.1 k hk] at c
        rw [if_neg c, or0] at ih
        exact ih
      · rw [cmp0, hT.2.2.2.2.2.1 k hk] at c
        rw [if_pos c] at ih
        exact ih
  · rw [bx_or, ← nI_1] at ih
    refine v_Tw_brokenBy_5 ht hs ⟨fun c => by rw [hT.1.2.2.2.1] at c; exact ge_not c hk (by omega), fun _ => ⟨k, rfl, by omega, fun c => ?_, fun c => ?_⟩⟩
    · rw [cmp0, hT.2.2.2.2.1 k hk] at c
      rw [if_pos c, or0] at ih
      exact ih
    · rw [cmp0, hT.2.2.2.2.1 k hk] at c
      rw [if_neg c] at ih
      exact ih
theorem M_broken_ok (hs : q_Sh σ) (hD : WfD D) (hT : MT0 σ D P) (hh : HB σ b D hm) (hb : b + 6 ≤ 1886) (hq : Q (some (.int (brk D hm))) σ) : q_Call G (d + 1) 0 0 X_M_brokenBy [.ref 159, .int (nI b)] σ Q := by
  have n3 := hD.2.2.1
  have n4 := hD.2.2.2.1
  have h6 := hD.F6
  refine q_ci (by decide +kernel) (Nat.le_of_ble_eq_true rfl) (fun Q hq => ?_) hq
  refine v_M_brokenBy_0 hs ?_
  refine v_M_brokenBy_4 hs ⟨fun c => absurd c (by decide), fun _ => ?_⟩
  have e3 : q_I σ 165 3 = nI (D 3) := hT.1 3 (by decide) (by decide)
  have e4 : q_I σ 165 4 = nI (D 4) := hT.1 4 (by decide) (by decide)
  refine up_ind (R := fun k => q_At G X_M_brokenBy (d + 1) 0 0 12 [some (.ref 159), some (.int (nI b)), some (.int (bx_or (fun k => if thk D hm (D (176 + 2 * k)) (D (177 + 2 * k)) = 0 then 0 else (1 : Int32) <<< (nI k &&& 31)) k)), some (.int 0), some (.int (nI k)), none, none] [] σ Q) (n := D 3) ?_ (fun k hk ih => ?_) 0 (Nat.zero_le _)
  · refine v_M_brokenBy_12 hs ⟨3, rfl, by decide, fun _ => ?_, fun c => absurd (by rw [e3]; exact Int32.le_refl _) c⟩
    refine v_M_brokenBy_4 hs ⟨fun c => absurd c (by decide), fun _ => ?_⟩
    refine up_ind (R := fun k => q_At G X_M_brokenBy (d + 1) 0 0 12 [some (.ref 159), some (.int (nI b)), some (.int (bx_orI (bx_or (fun k => if thk D hm (D (176 + 2 * k)) (D (177 + 2 * k)) = 0 then 0 else (1 : Int32) <<< (nI k &&& 31)) (D 3)) (fun k => if thk D hm (D (184 + 2 * k)) (D (185 + 2 * k)) = 0 then (1 : Int32) <<< (nI (4 + k) &&& 31) else 0) k)), some (.int (0 + 1)), some (.int (nI k)), none, none] [] σ Q) (n := D 4) ?_ (fun k hk ih => ?_) 0 (Nat.zero_le _)
    · refine v_M_brokenBy_12 hs ⟨4, rfl, by decide, fun _ => ?_, fun c => absurd (by rw [e4]; exact Int32.le_refl _) c⟩
      exact v_M_brokenBy_4 hs ⟨fun _ => hq, fun c => absurd (by decide) c⟩
    · obtain ⟨g1, g2, g3⟩ := hD.2.2.2.2.2.2.2.2.2.2 k hk
      rw [bx_orI, ← nI_1] at ih
      refine v_M_brokenBy_12 hs ⟨4, rfl, by decide, fun c => by rw [e4] at c; exact ge_not c hk (by omega), fun _ => ⟨184 + 2 * k, ?_, by omega, 185 + 2 * k, ?_, by omega, ?_⟩⟩
      · rw [show (176 : Int32) + 8 * (0 + 1) = nI 184 from rfl, q_lit 2, pk_mul, nI_add]
      · rw [show (176 : Int32) + 8 * (0 + 1) = nI 184 from rfl, q_lit 2, pk_mul, nI_add, nI_1]; congr 1; omega
      · rw [hT.1 _ (by omega) (by omega), hT.1 _ (by omega) (by omega)]
        refine M_wallBy_ok hs hD hT hh hb g1 g2 ⟨hs, _, rfl, ?_⟩
        have h9 := thk_le (f := D (184 + 2 * k)) (e := D (185 + 2 * k)) hD (hh _ g1).2 (hh _ g2).2
        have ev : (if (if nI (thk D hm (D (184 + 2 * k)) (D (185 + 2 * k))) ≤ 0 then (0 : Int32) else 1) = (if (0 + 1 : Int32) = 0 then (1 : Int32) else 0) then (1 : Int32) <<< (((4 : Int32) * (0 + 1) + nI k) &&& 31) else 0) = (if thk D hm (D (184 + 2 * k)) (D (185 + 2 * k)) = 0 then (1 : Int32) <<< (nI (4 + k) &&& 31) else 0) := by
          rw [if_neg (show ¬ ((0 + 1 : Int32) = 0) by decide), show (4 : Int32) * (0 + 1) = nI 4 from rfl, nI_add]
          by_cases c : thk D hm (D (184 + 2 * k)) (D (185 + 2 * k)) = 0
          · rw [if_pos c, if_pos ((le0_iff (by omega)).mpr c), if_pos rfl]
          · rw [if_neg c, if_neg (fun z => c ((le0_iff (by omega)).mp z)), if_neg (by decide)]
        rw [← ev] at ih
        exact ih
  · obtain ⟨g1, g2, g3⟩ := hD.2.2.2.2.2.2.2.2.2.1 k hk
    rw [bx_or, ← nI_1] at ih
    refine v_M_brokenBy_12 hs ⟨3, rfl, by decide, fun c => by rw [e3] at c; exact ge_not c hk (by omega), fun _ => ⟨176 + 2 * k, ?_, by omega, 177 + 2 * k, ?_, by omega, ?_⟩⟩
    · rw [show (176 : Int32) + 8 * 0 = nI 176 from rfl, q_lit 2, pk_mul, nI_add]
    · rw [show (176 : Int32) + 8 * 0 = nI 176 from rfl, q_lit 2, pk_mul, nI_add, nI_1]; congr 1; omega
    · rw [hT.1 _ (by omega) (by omega), hT.1 _ (by omega) (by omega)]
      refine M_wallBy_ok hs hD hT hh hb g1 g2 ⟨hs, _, rfl, ?_⟩
      have h9 := thk_le (f := D (176 + 2 * k)) (e := D (177 + 2 * k)) hD (hh _ g1).2 (hh _ g2).2
      have ev : (if (if nI (thk D hm (D (176 + 2 * k)) (D (177 + 2 * k))) ≤ 0 then (0 : Int32) else 1) = (if (0 : Int32) = 0 then (1 : Int32) else 0) then (1 : Int32) <<< (((4 : Int32) * 0 + nI k) &&& 31) else 0) = (if thk D hm (D (176 + 2 * k)) (D (177 + 2 * k)) = 0 then 0 else (1 : Int32) <<< (nI k &&& 31)) := by
        rw [if_pos (show ((0 : Int32) = 0) by decide), show (4 : Int32) * 0 = nI 0 from rfl, nI_add, Nat.zero_add]
        by_cases c : thk D hm (D (176 + 2 * k)) (D (177 + 2 * k)) = 0
        · rw [if_pos c, if_pos ((le0_iff (by omega)).mpr c), if_neg (by decide)]
        · rw [if_neg c, if_neg (fun z => c ((le0_iff (by omega)).mp z)), if_pos rfl]
      rw [← ev] at ih
      exact ih
end TOWN3
