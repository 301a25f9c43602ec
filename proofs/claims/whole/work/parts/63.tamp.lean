-- whether a barrel was tampered with
def pwN (b : Nat) : Nat → Nat
  | 0 => 1
  | n + 1 => pwN b n * b
def chL (a s : Nat) : Nat → Nat
  | 0 => 1
  | k + 1 => chL a s k * (a - s + (k + 1)) / (k + 1)
def bn (a s : Nat) : Nat := chL a s s
def gd (dr W M ti : Nat) : Nat → Nat
  | 0 => 0
  | k + 1 => gd dr W M ti k + bn dr (ti + k) * pwN W (ti + k) * pwN M (dr - (ti + k))
def vlL (n near far : Nat) : Nat → Nat
  | 0 => 1
  | k + 1 => vlL n near far k * (if n ≤ k then far else near)
def vbL (dr v0 : Nat) : Nat → Nat
  | 0 => v0
  | k + 1 => vbL dr v0 k * (dr - k) / (k + 1)
def rsL (dr near far ti : Nat) : Nat → Nat
  | 0 => 0
  | k + 1 => rsL dr near far ti k + vbL dr (vlL (ti + k) near far dr) (ti + k)
theorem chL_le : ∀ a, a ≤ 6 → ∀ s, s ≤ a → ∀ k, k ≤ s → chL a s k ≤ 20 := by decide +kernel
theorem bn_step : ∀ d, d ≤ 6 → ∀ k, k < d → bn d (k + 1) * (k + 1) = bn d k * (d - k) := by decide +kernel
theorem vb_N {dr v0 : Nat} (hd : dr ≤ 6) : ∀ k, k ≤ dr → vbL dr v0 k = v0 * bn dr k
  | 0, _ => by rw [vbL]; exact (Nat.mul_one v0).symm
  | k + 1, h => by
    rw [vbL, vb_N hd k (by omega), Nat.mul_assoc, ← bn_step dr hd k (by omega), ← Nat.mul_assoc, Nat.mul_div_cancel _ (Nat.succ_pos k)]
theorem vl_N {n W M : Nat} : ∀ k, vlL n (2 * W) (2 * M) k = 2 ^ k * (pwN W (if k ≤ n then k else n) * pwN M (k - n))
  | 0 => by simp [vlL, pwN]
  | k + 1 => by
    rw [vlL, vl_N k]
    by_cases c : n ≤ k
    · rw [if_pos c, if_neg (show ¬ k + 1 ≤ n by omega), show k + 1 - n = (k - n) + 1 by omega, pwN, Nat.pow_succ]
      have e : (if k ≤ n then k else n) = n := by split <;> omega
      rw [e]
      simp only [Nat.mul_assoc, Nat.mul_left_comm, Nat.mul_comm]
    · rw [if_neg c, if_pos (show k ≤ n by omega), if_pos (show k + 1 ≤ n by omega), show k - n = 0 by omega, show k + 1 - n = 0 by omega, pwN, Nat.pow_succ]
      simp only [Nat.mul_assoc, Nat.mul_left_comm, Nat.mul_comm, pwN]
theorem rs_N {dr W M ti : Nat} (hd : dr ≤ 6) : ∀ k, ti + k ≤ dr + 1 → rsL dr (2 * W) (2 * M) ti k = 2 ^ dr * gd dr W M ti k
  | 0, _ => rfl
  | k + 1, h => by
    rw [rsL, gd, rs_N hd k (by omega), vb_N hd _ (by omega), vl_N, Nat.mul_add]
    have e : (if dr ≤ ti + k then dr else ti + k) = ti + k := by split <;> omega
    rw [e]
    simp only [Nat.mul_assoc, Nat.mul_left_comm, Nat.mul_comm]
theorem pw_le {b : Nat} (hb : b ≤ 15) : ∀ n, pwN b n ≤ 15 ^ n
  | 0 => Nat.le_refl 1
  | n + 1 => by rw [pwN, Nat.pow_succ]; exact Nat.mul_le_mul (pw_le hb n) hb
theorem pw_pos {b : Nat} (hb : 0 < b) : ∀ n, 0 < pwN b n
  | 0 => Nat.one_pos
  | n + 1 => by rw [pwN]; exact Nat.mul_pos (pw_pos hb n) hb
theorem pw_2 {b : Nat} : ∀ n, pwN (2 * b) n = 2 ^ n * pwN b n
  | 0 => rfl
  | n + 1 => by
    rw [pwN, pwN, pw_2 n, Nat.pow_succ]
    simp only [Nat.mul_assoc, Nat.mul_left_comm, Nat.mul_comm]
theorem tm_le {dr W M n : Nat} (hd : dr ≤ 6) (hW : W ≤ 15) (hM : M ≤ 15) (hn : n ≤ dr) : bn dr n * pwN W n * pwN M (dr - n) ≤ 20 * 11390625 := by
  have h1 : bn dr n ≤ 20 := chL_le dr hd n hn n (Nat.le_refl _)
  have h2 : pwN W n * pwN M (dr - n) ≤ 15 ^ n * 15 ^ (dr - n) := Nat.mul_le_mul (pw_le hW _) (pw_le hM _)
  rw [← Nat.pow_add, show n + (dr - n) = dr by omega] at h2
  have h3 : 15 ^ dr ≤ 15 ^ 6 := Nat.pow_le_pow_right (by decide) hd
  rw [Nat.mul_assoc]
  exact Nat.mul_le_mul h1 (Nat.le_trans h2 h3)
theorem gd_le {dr W M ti : Nat} (hd : dr ≤ 6) (hW : W ≤ 15) (hM : M ≤ 15) : ∀ k, ti + k ≤ dr + 1 → gd dr W M ti k ≤ 20 * 11390625 * k
  | 0, _ => Nat.le_refl 0
  | k + 1, h => by
    rw [gd]
    have h1 := gd_le (ti := ti) hd hW hM k (by omega)
    have h2 := tm_le (n := ti + k) hd hW hM (by omega)
    rw [Nat.mul_add]
    omega
def a_tamp (D : Nat → Nat) (x y u v : Int32) : Int32 := if twoN (D 1) x y = 0 then -1 else if inN 1 u 6 = 0 then -1 else if inN 0 v u = 0 then -1 else nI (gd u.toNatClampNeg (D 2) (prN D - D 2) v.toNatClampNeg (u.toNatClampNeg + 1 - v.toNatClampNeg) * 1000000 / pwN (prN D) u.toNatClampNeg)
section TAMP
variable {G : q_G} {d : Nat} {σ σ' : q_S} {Q : Option Value → q_S → Prop} {t p : Nat} {D : Nat → Nat} {P : Nat → List Int32} {N : q_nm} {hm w : Nat → Nat} {L L' : Nat → Int32} {un un' : List q_lf} {mk mk' : Nat → Option (q_lf × q_tl)} {tl tl' : q_tl} {dy : q_dy} {tp : List Nat} {x y z c u v : Int32} {f e : Nat}
theorem W_power_ok {b n : Nat} (hs : q_Sh σ) (hb : b < 2 ^ 31) (hn : n < 2 ^ 31) (hq : Q (some (.long (lN (pwN b n)))) σ) : q_Call G d 0 0 X_W_power [.int (nI b), .int (nI n)] σ Q := by
  refine q_cl64 (by decide +kernel) (Nat.le_of_ble_eq_true rfl) (fun Q hq => ?_) hq
  refine v_W_power_0 hs ?_
  refine up_ind (R := fun k => q_At G X_W_power d 0 0 5 [some (.int (nI b)), some (.int (nI n)), some (.long (lN (pwN b k))), none, some (.int (nI k))] [] σ Q) (n := n) ?_ (fun k hk ih => ?_) 0 (Nat.zero_le _)
  · exact v_W_power_5 hs ⟨fun _ => hq, fun c => absurd (Int32.le_refl _) c⟩
  · refine v_W_power_5 hs ⟨fun c => ge_not c hk hn, fun _ => ?_⟩
    rw [nI_l hb, lN_mul, nI_1]
    exact ih
theorem W_choose_ok {a s : Nat} (hs : q_Sh σ) (ha : a ≤ 6) (hsa : s ≤ a) (hq : Q (some (.long (lN (bn a s)))) σ) : q_Call G d 0 0 X_W_choose [.int (nI a), .int (nI s)] σ Q := by
  refine q_cl64 (by decide +kernel) (Nat.le_of_ble_eq_true rfl) (fun Q hq => ?_) hq
  refine v_W_choose_0 hs ?_
  refine up_ind (R := fun k => q_At G X_W_choose d 0 0 5 [some (.int (nI a)), some (.int (nI s)), some (.long (lN (chL a s k))), none, some (.int (nI (k + 1)))] [] σ Q) (n := s) ?_ (fun k hk ih => ?_) 0 (Nat.zero_le _)
  · exact v_W_choose_5 hs ⟨fun _ => hq, fun c => absurd (nI_lt (by omega) (by omega)) c⟩
  · have hc := chL_le a ha s hsa k (by omega)
    refine v_W_choose_5 hs ⟨fun c => absurd c (nI_nlt (by omega) (by omega)), fun _ => ⟨nz64 (by omega) (by omega), ?_⟩⟩
    have hm : chL a s k * (a - s + (k + 1)) ≤ 20 * 12 := Nat.mul_le_mul hc (by omega)
    rw [pk_sub hsa, nI_add, nI_l (by omega), nI_l (by omega), lN_mul, pk_lDiv (by omega) (by omega) (by omega), nI_1]
    exact ih
theorem W_tamp_ok (hs : q_Sh σ) (hw : WJ D P N hm L un mk tl dy tp) (hJ : CJ0 σ t p D P N L un mk tl dy tp) (hq : Q (some (.int (a_tamp D x y u v))) σ) : q_Call G (d + 2) 0 0 X_W_tampered [.ref 0, .int x, .int y, .int u, .int v] σ Q := by
  have h6 := hw.1.F6
  refine q_cii (Pp := fun r σ' => r = a_tamp D x y u v ∧ σ' = σ) (by decide +kernel) (Nat.le_of_ble_eq_true rfl) (fun Q hv => ?_) (fun r σ' h => by rw [h.1, h.2]; exact hq)
  have fin : ∀ r, r = a_tamp D x y u v → Q (some (.int r)) σ := fun r h => hv _ _ ⟨h, rfl⟩
  refine v_W_tampered_0 hs ⟨t, hJ.1.1, hJ.1.2.1, Tw_pairsN_ok hJ.1.2.1 hs hw.1 hJ.2.2.1.1 ⟨hs, _, rfl, W_areTwo_ok hs hJ ⟨hs, _, rfl, fun k => fin _ (by rw [a_tamp, if_pos k]), fun k => ?_⟩⟩⟩
  have ecd : (if u < 1 then (0 : Int32) else (if 6 < u then (0 : Int32) else (if v < 0 then (0 : Int32) else (if u < v then (0 : Int32) else (1 : Int32))))) = if inN 1 u 6 = 0 then 0 else inN 0 v u := by
    unfold inN
    by_cases c1 : u < 1
    · rw [if_pos c1, if_pos c1, if_pos rfl]
    · rw [if_neg c1, if_neg c1]
      by_cases c2 : 6 < u
      · rw [if_pos c2, if_pos c2, if_pos rfl]
      · rw [if_neg c2, if_neg c2, if_neg (show ¬ (1 : Int32) = 0 by decide)]
  rw [ecd]
  refine ⟨fun c => fin _ ?_, fun c => ?_⟩
  · rw [a_tamp, if_neg k]
    by_cases c1 : inN 1 u 6 = 0
    · rw [if_pos c1]
    · rw [if_neg c1] at c ⊢
      rw [if_pos c]
  have c1 : ¬ inN 1 u 6 = 0 := fun h => by rw [if_pos h] at c; exact c rfl
  rw [if_neg c1] at c ⊢
  obtain ⟨dr, d1, d2, rfl⟩ := inN_s (lo := 1) (hi := 6) (by decide) (by decide) c1
  obtain ⟨ti, t1, t2, rfl⟩ := inN_s (lo := 0) (hi := dr) (by omega) (by omega) c
  obtain ⟨f, e, a1, a2, a3, rfl, rfl⟩ := twoN_s (by omega) k
  have p1 := pr_pos hw.1 (by omega)
  have p2 := pr_le hw.1
  have wl := wl_le hw.1 hw.2.2.1 a1 a2 a3
  rw [pr_2 hw.1] at wl
  have e0 : a_tamp D (nI f) (nI e) (nI dr) (nI ti) = nI (gd dr (D 2) (prN D - D 2) ti (dr + 1 - ti) * 1000000 / pwN (prN D) dr) := by rw [a_tamp, if_neg k, if_neg c1, if_neg c, nI_clamp (by omega), nI_clamp (by omega)]
  refine ⟨fun _ => ?_, fun c => absurd (nI_le (a := 1) p1 (by omega)) c⟩
  have eW := hJ.2.2.1.1.1.2.2.1
  have lp := up_ind (R := fun k => q_At G X_W_tampered (d + 2) 0 0 67 [some (.ref 0), some (.int (nI f)), some (.int (nI e)), some (.int (nI dr)), some (.int (nI ti)), some (.int (inN 0 (nI ti) (nI dr))), some (.int (nI (prN D))), some (.long (lN (gd dr (D 2) (prN D - D 2) ti k))), none, some (.int (nI (ti + k))), none] [] σ Q) (n := dr + 1 - ti) ?_ (fun k hk ih => ?_)
  · have := lp 0 (Nat.zero_le _)
    exact this
  · refine v_W_tampered_67 hs ⟨fun _ => ?_, fun c => absurd (nI_lt (by omega) (by omega)) c⟩
    refine W_power_ok hs (by omega) (by omega) ⟨hs, _, rfl, ?_⟩
    have pp := pw_pos p1 dr
    have pl := pw_le p2 dr
    have p3 : 15 ^ dr ≤ 15 ^ 6 := Nat.pow_le_pow_right (by decide) d2
    have p4 : 15 ^ 6 = 11390625 := by decide
    have gl := gd_le (ti := ti) (W := D 2) (M := prN D - D 2) d2 (by omega) (by omega) (dr + 1 - ti) (by omega)
    have g2 : gd dr (D 2) (prN D - D 2) ti (dr + 1 - ti) * 1000000 < 2 ^ 63 := by
      have : gd dr (D 2) (prN D - D 2) ti (dr + 1 - ti) ≤ 20 * 11390625 * 7 := Nat.le_trans gl (Nat.mul_le_mul_left _ (by omega))
      omega
    have cm : 0 ≤ lg_cmp (lN (pwN (prN D) dr)) 1 := by
      unfold lg_cmp
      by_cases c : lN (pwN (prN D) dr) > 1
      · rw [if_pos c]; decide
      · have h1 : pwN (prN D) dr = 1 := by
          refine Nat.le_antisymm (Nat.le_of_not_lt (fun h => c ?_)) pp
          show lN 1 < _
          rw [pk_lLT (by decide) (by omega)]
          exact h
        rw [if_neg c, h1]
        decide
    refine ⟨fun _ => ⟨fun h => by rw [q_litL 0, pk_lEQ (by omega) (by decide)] at h; omega, fin _ ?_⟩, fun h => absurd cm h⟩
    rw [e0, q_litL 1000000, lN_mul, pk_lDiv g2 pp (by omega), lN_i]
  · refine v_W_tampered_67 hs ⟨fun c => absurd c (nI_nlt (by omega) (by omega)), fun _ => ?_⟩
    refine W_choose_ok hs d2 (by omega) ⟨hs, _, rfl, t, hJ.1.1, hJ.1.2.1, ?_⟩
    rw [eW]
    refine W_power_ok hs (by omega) (by omega) ⟨hs, _, rfl, t, hJ.1.1, hJ.1.2.1, ?_⟩
    rw [eW, pk_sub (by omega), pk_sub (by omega)]
    refine W_power_ok hs (by omega) (by omega) ⟨hs, _, rfl, ?_⟩
    dsimp only
    rw [lN_mul, lN_mul, lN_add, nI_1]
    exact ih
theorem M_tamp_ok (hs : q_Sh σ) (hw : WJ D P N hm L un mk tl dy tp) (hJ : MJ σ D P N L un mk tl dy tp) (hq : Q (some (.int (a_tamp D x y u v))) (Th σ)) : q_Call G (d + 3) 0 0 X_M_tampered [.ref 159, .int x, .int y, .int u, .int v] σ Q := by
  have h6 := hw.1.F6
  have hs1 : q_Sh (Th σ) := Th_fr.sh hs
  have hJ1 : MJ (Th σ) D P N L un mk tl dy tp := hJ.th hw
  refine q_cii (Pp := fun r σ' => r = a_tamp D x y u v ∧ σ' = Th σ) (by decide +kernel) (Nat.le_of_ble_eq_true rfl) (fun Q hv => ?_) (fun r σ' h => by rw [h.1, h.2]; exact hq)
  have fin : ∀ r, r = a_tamp D x y u v → Q (some (.int r)) (Th σ) := fun r h => hv _ _ ⟨h, rfl⟩
  refine v_M_tampered_0 hs (M_areTwo_ok hs1 hJ1.1.1 ⟨hs1, _, rfl, fun k => fin _ (by rw [a_tamp, if_pos k]), fun k => M_within_ok hs1 ⟨hs1, _, rfl, fun c1 => fin _ (by rw [a_tamp, if_neg k, if_pos c1]), fun c1 => M_within_ok hs1 ⟨hs1, _, rfl, fun c => ?_, fun c => fin _ (by rw [a_tamp, if_neg k, if_neg c1, if_pos c])⟩⟩⟩)
  obtain ⟨dr, d1, d2, rfl⟩ := inN_s (lo := 1) (hi := 6) (by decide) (by decide) c1
  obtain ⟨ti, t1, t2, rfl⟩ := inN_s (lo := 0) (hi := dr) (by omega) (by omega) c
  obtain ⟨f, e, a1, a2, a3, rfl, rfl⟩ := twoN_s (by omega) k
  have p1 := pr_pos hw.1 (by omega)
  have p2 := pr_le hw.1
  have wl := wl_le hw.1 hw.2.2.1 a1 a2 a3
  rw [pr_2 hw.1] at wl
  have e0 : a_tamp D (nI f) (nI e) (nI dr) (nI ti) = nI (gd dr (D 2) (prN D - D 2) ti (dr + 1 - ti) * 1000000 / pwN (prN D) dr) := by rw [a_tamp, if_neg k, if_neg c1, if_neg c, nI_clamp (by omega), nI_clamp (by omega)]
  have hH : 0 < D 0 := by have := hw.1.1; omega
  have eA : q_I (Th σ) 165 0 * (q_I (Th σ) 165 0 - 1) = nI (2 * prN D) := by
    rw [hJ1.1.1.H, show nI (D 0) - 1 = nI (D 0 - 1) by rw [show D 0 = D 0 - 1 + 1 by omega, nI_pred]; rfl, pk_mul, pr_2 hw.1]
  have eN : 2 * q_I (Th σ) 165 2 = nI (2 * D 2) := by rw [hJ1.1.1.1 2 (by decide) (by decide), q_lit 2, pk_mul]
  rw [eA, eN]
  -- the sum
  have pp := pw_pos (show 0 < 2 * prN D by omega) dr
  have e2 := pw_2 (b := prN D) dr
  have pl := pw_le p2 dr
  have p3 : 15 ^ dr ≤ 15 ^ 6 := Nat.pow_le_pow_right (by decide) d2
  have p4 : 15 ^ 6 = 11390625 := by decide
  have p5 : 2 ^ dr ≤ 2 ^ 6 := Nat.pow_le_pow_right (by decide) d2
  have p6 : 2 ^ 6 = 64 := by decide
  have sum := up_ind (R := fun k => q_At G X_M_tampered (d + 3) 0 0 92 [some (.ref 159), some (.int (nI f)), some (.int (nI e)), some (.int (nI dr)), some (.int (nI ti)), some (.int (nI (2 * prN D))), some (.int (nI (2 * D 2))), some (.long (lN (pwN (2 * prN D) dr))), none, some (.long (lN (rsL dr (2 * D 2) (2 * (prN D - D 2)) ti k))), none, some (.int (nI (ti + k))), none, none, none] [] (Th σ) Q) (n := dr + 1 - ti) ?_ (fun k hk ih => ?_)
  · -- the power
    refine up_ind (R := fun k => q_At G X_M_tampered (d + 3) 0 0 65 [some (.ref 159), some (.int (nI f)), some (.int (nI e)), some (.int (nI dr)), some (.int (nI ti)), some (.int (nI (2 * prN D))), some (.int (nI (2 * D 2))), some (.long (lN (pwN (2 * prN D) k))), none, some (.int (nI k)), none, none, none, none, none] [] (Th σ) Q) (n := dr) ?_ (fun k hk ih => ?_) 0 (Nat.zero_le _)
    · exact v_M_tampered_65 hs1 ⟨fun _ => sum 0 (Nat.zero_le _), fun c => absurd (Int32.le_refl _) c⟩
    · refine v_M_tampered_65 hs1 ⟨fun c => ge_not c hk (by omega), fun _ => ?_⟩
      rw [nI_l (by omega), lN_mul, nI_1]
      exact ih
  · refine v_M_tampered_92 hs1 ⟨fun _ => ?_, fun c => absurd (nI_lt (by omega) (by omega)) c⟩
    have gl := gd_le (ti := ti) (W := D 2) (M := prN D - D 2) d2 (by omega) (by omega) (dr + 1 - ti) (by omega)
    have gl2 : gd dr (D 2) (prN D - D 2) ti (dr + 1 - ti) ≤ 20 * 11390625 * 7 := Nat.le_trans gl (Nat.mul_le_mul_left _ (by omega))
    have rN2 := rs_N (W := D 2) (M := prN D - D 2) (ti := ti) d2 (dr + 1 - ti) (by omega)
    have g3 : 2 ^ dr * gd dr (D 2) (prN D - D 2) ti (dr + 1 - ti) ≤ 64 * (20 * 11390625 * 7) := Nat.mul_le_mul (by omega) gl2
    have g4 : 2 ^ dr * pwN (prN D) dr ≤ 64 * 11390625 := Nat.mul_le_mul (by omega) (by omega)
    rw [rN2]
    refine ⟨fun h => by rw [q_litL 0, pk_lEQ (by omega) (by decide)] at h; omega, fin _ ?_⟩
    rw [e0, q_litL 1000000, lN_mul, pk_lDiv (by omega) pp (by omega), lN_i, e2, Nat.mul_assoc]
    exact congrArg nI (Nat.mul_div_mul_left _ _ (Nat.two_pow_pos dr))
  · refine v_M_tampered_92 hs1 ⟨fun c => absurd c (nI_nlt (by omega) (by omega)), fun _ => ?_⟩
    have hn : ti + k ≤ dr := by omega
    have eF : nI (2 * prN D) - nI (2 * D 2) = nI (2 * (prN D - D 2)) := by rw [pk_sub (by omega)]; congr 1; omega
    have v0N := vl_N (n := ti + k) (W := D 2) (M := prN D - D 2) dr
    have v0l : vlL (ti + k) (2 * D 2) (2 * (prN D - D 2)) dr ≤ 64 * 11390625 := by
      rw [v0N, show (if dr ≤ ti + k then dr else ti + k) = ti + k by split <;> omega]
      have h2 : pwN (D 2) (ti + k) * pwN (prN D - D 2) (dr - (ti + k)) ≤ 15 ^ (ti + k) * 15 ^ (dr - (ti + k)) := Nat.mul_le_mul (pw_le (by omega) _) (pw_le (by omega) _)
      rw [← Nat.pow_add, show ti + k + (dr - (ti + k)) = dr by omega] at h2
      exact Nat.mul_le_mul (by omega) (by omega)
    have bin := up_ind (R := fun j => q_At G X_M_tampered (d + 3) 0 0 142 [some (.ref 159), some (.int (nI f)), some (.int (nI e)), some (.int (nI dr)), some (.int (nI ti)), some (.int (nI (2 * prN D))), some (.int (nI (2 * D 2))), some (.long (lN (pwN (2 * prN D) dr))), none, some (.long (lN (rsL dr (2 * D 2) (2 * (prN D - D 2)) ti k))), none, some (.int (nI (ti + k))), some (.long (lN (vbL dr (vlL (ti + k) (2 * D 2) (2 * (prN D - D 2)) dr) j))), none, some (.int (nI j))] [] (Th σ) Q) (n := ti + k) ?_ (fun j hj ih2 => ?_)
    · refine up_ind (R := fun j => q_At G X_M_tampered (d + 3) 0 0 104 [some (.ref 159), some (.int (nI f)), some (.int (nI e)), some (.int (nI dr)), some (.int (nI ti)), some (.int (nI (2 * prN D))), some (.int (nI (2 * D 2))), some (.long (lN (pwN (2 * prN D) dr))), none, some (.long (lN (rsL dr (2 * D 2) (2 * (prN D - D 2)) ti k))), none, some (.int (nI (ti + k))), some (.long (lN (vlL (ti + k) (2 * D 2) (2 * (prN D - D 2)) j))), none, some (.int (nI j))] [] (Th σ) Q) (n := dr) ?_ (fun j hj ih2 => ?_) 0 (Nat.zero_le _)
      · exact v_M_tampered_104 hs1 ⟨fun _ => bin 0 (Nat.zero_le _), fun c => absurd (Int32.le_refl _) c⟩
      · refine v_M_tampered_104 hs1 ⟨fun c => ge_not c hj (by omega), fun _ => ?_⟩
        rw [vlL] at ih2
        rw [eF, nI_1]
        simp only [nI_leI (show ti + k < 2 ^ 31 by omega) (show j < 2 ^ 31 by omega)]
        by_cases c : ti + k ≤ j
        · rw [if_pos c] at ih2 ⊢
          rw [nI_l (by omega), lN_mul]
          exact ih2
        · rw [if_neg c] at ih2 ⊢
          rw [nI_l (by omega), lN_mul]
          exact ih2
    · refine v_M_tampered_142 hs1 ⟨fun _ => ?_, fun c => absurd (Int32.le_refl _) c⟩
      rw [lN_add, nI_1]
      exact ih
    · refine v_M_tampered_142 hs1 ⟨fun c => ge_not c hj (by omega), fun _ => ?_⟩
      rw [nI_1]
      refine ⟨nz64 (by omega) (by omega), ?_⟩
      have vb := vb_N (v0 := vlL (ti + k) (2 * D 2) (2 * (prN D - D 2)) dr) d2 j (by omega)
      have b20 : bn dr j ≤ 20 := chL_le dr d2 j (by omega) j (Nat.le_refl _)
      have b1 : vbL dr (vlL (ti + k) (2 * D 2) (2 * (prN D - D 2)) dr) j ≤ 64 * 11390625 * 20 := by rw [vb]; exact Nat.mul_le_mul v0l b20
      have b2 : vbL dr (vlL (ti + k) (2 * D 2) (2 * (prN D - D 2)) dr) j * (dr - j) ≤ 64 * 11390625 * 20 * 6 := Nat.mul_le_mul b1 (by omega)
      rw [pk_sub (by omega), nI_l (by omega), nI_l (by omega), lN_mul, pk_lDiv (by omega) (by omega) (by omega)]
      exact ih2
end TAMP
