-- rows of small numbers packed into one
def dgN (B : Nat) (w : Nat → Nat) : Nat → Nat
  | 0 => 0
  | n + 1 => dgN B w n + w n * B ^ n
theorem dgN_lt {B : Nat} {w : Nat → Nat} : ∀ n, (∀ f, f < n → w f < B) → dgN B w n < B ^ n
  | 0, _ => by simp [dgN]
  | n + 1, h => by
    have h1 := dgN_lt n (fun f hf => h f (by omega))
    have h2 := h n (by omega)
    have h3 : (w n + 1) * B ^ n ≤ B * B ^ n := Nat.mul_le_mul_right _ h2
    rw [dgN, Nat.pow_succ, Nat.mul_comm (B ^ n) B]
    rw [Nat.add_mul, Nat.one_mul] at h3
    omega
theorem dgN_at {B : Nat} {w : Nat → Nat} {f : Nat} : ∀ n, f < n → (∀ f, f < n → w f < B) → dgN B w n / B ^ f % B = w f
  | 0, h, _ => absurd h (Nat.not_lt_zero _)
  | n + 1, hf, h => by
    have hn := h n (by omega)
    have hB : 0 < B := by omega
    have hl := dgN_lt n (fun f hf => h f (by omega))
    rw [dgN]
    by_cases c : f = n
    · subst c
      rw [Nat.add_mul_div_right _ _ (Nat.pow_pos hB), Nat.div_eq_of_lt hl, Nat.zero_add, Nat.mod_eq_of_lt hn]
    · have e : w n * B ^ n = (w n * B ^ (n - f - 1) * B) * B ^ f := by
        rw [Nat.mul_assoc, Nat.mul_assoc, ← Nat.pow_succ', ← Nat.pow_add]
        congr 2
        omega
      rw [e, Nat.add_mul_div_right _ _ (Nat.pow_pos hB), Nat.add_mul_mod_self_right]
      exact dgN_at n (by omega) (fun f hf => h f (by omega))
theorem or_nI (a b : Nat) : nI a ||| nI b = nI (a ||| b) := by
  apply Int32.toBitVec_inj.mp
  rw [Int32.toBitVec_or]
  show BitVec.ofNat 32 a ||| BitVec.ofNat 32 b = BitVec.ofNat 32 (a ||| b)
  exact (BitVec.ofNat_or ..).symm
theorem or_lN (a b : Nat) : lN a ||| lN b = lN (a ||| b) := by
  apply Int64.toBitVec_inj.mp
  rw [Int64.toBitVec_or]
  show BitVec.ofNat 64 a ||| BitVec.ofNat 64 b = BitVec.ofNat 64 (a ||| b)
  exact (BitVec.ofNat_or ..).symm
theorem or_add {x y k : Nat} (h : x < 2 ^ k) : x ||| y * 2 ^ k = x + y * 2 ^ k := by
  rw [Nat.or_comm, Nat.mul_comm, ← Nat.two_pow_add_eq_or_of_lt h, Nat.add_comm]
theorem tnL {n : Nat} (h : n < 2 ^ 64) : (lN n).toBitVec.toNat = n := Nat.mod_eq_of_lt h
theorem shlL {n : Nat} (s : Int64) (k : Nat) (hs : (s.toBitVec.smod 64).toNat = k) (h : n * 2 ^ k < 2 ^ 64) : lN n <<< s = lN (n * 2 ^ k) := by
  apply Int64.toBitVec_inj.mp
  apply BitVec.eq_of_toNat_eq
  have hn : n < 2 ^ 64 := Nat.lt_of_le_of_lt (Nat.le_mul_of_pos_right n (Nat.two_pow_pos k)) h
  show ((lN n).toBitVec <<< (s.toBitVec.smod 64).toNat).toNat = _
  rw [hs, BitVec.toNat_shiftLeft, Nat.shiftLeft_eq, tnL hn, tnL h, Nat.mod_eq_of_lt h]
theorem shrL {n : Nat} (h : n < 2 ^ 63) (s : Int64) (k : Nat) (hs : (s.toBitVec.smod 64).toNat = k) : lN n >>> s = lN (n / 2 ^ k) := by
  apply Int64.toInt_inj.mp
  have h2 : n / 2 ^ k ≤ n := Nat.div_le_self _ _
  show ((lN n).toBitVec.sshiftRight (s.toBitVec.smod 64).toNat).toInt = _
  rw [hs, BitVec.toInt_sshiftRight, pk_lT (by omega)]
  show (lN n).toInt >>> k = _
  rw [pk_lT h, Int.shiftRight_eq_div_pow]
  rfl
theorem andL {n : Nat} (h : n < 2 ^ 64) {m : Int64} (k : Nat) (hm : m.toBitVec.toNat = 2 ^ k - 1) : lN n &&& m = lN (n % 2 ^ k) := by
  apply Int64.toBitVec_inj.mp
  apply BitVec.eq_of_toNat_eq
  rw [Int64.toBitVec_and, BitVec.toNat_and, hm, Nat.and_two_pow_sub_one_eq_mod, tnL h]
  exact (tnL (Nat.lt_of_le_of_lt (Nat.mod_le _ _) h)).symm
theorem s3 : ∀ f, f < 6 → ((((3 : Int32) * nI f) &&& 31).toBitVec.smod 32).toNat = 3 * f := by decide +kernel
theorem s9 : ∀ f, f < 6 → ((((9 : Int32) * nI f).toInt64 &&& 63).toBitVec.smod 64).toNat = 9 * f := by decide +kernel
theorem p8 (f : Nat) : 8 ^ f = 2 ^ (3 * f) := by rw [Nat.pow_mul]
theorem p512 (f : Nat) : 512 ^ f = 2 ^ (9 * f) := by rw [Nat.pow_mul]
/-- a house laid into the row of houses -/
theorem row_add {w : Nat → Nat} {n : Nat} (hn : n < 6) (h : ∀ f, f < n + 1 → w f < 8) : nI (dgN 8 w n) ||| (nI (w n) <<< ((3 * nI n) &&& 31)) = nI (dgN 8 w (n + 1)) := by
  have h1 := dgN_lt n (fun f hf => h f (by omega))
  have h2 := dgN_lt (n + 1) h
  have h3 : 8 ^ (n + 1) ≤ 8 ^ 6 := Nat.pow_le_pow_right (by decide) (by omega)
  have h4 : 8 ^ 6 < 2 ^ 31 := by decide
  rw [p8] at h1
  rw [pk_shlN _ (3 * n) (s3 n hn), or_nI, or_add h1, dgN, p8]
  rw [dgN, p8 n] at h2
  omega
theorem row_at {w : Nat → Nat} {n f : Nat} (hn : n ≤ 6) (hf : f < n) (h : ∀ f, f < n → w f < 8) : (nI (dgN 8 w n) >>> ((3 * nI f) &&& 31)) &&& 7 = nI (w f) := by
  have h2 := dgN_lt n h
  have h3 : 8 ^ n ≤ 8 ^ 6 := Nat.pow_le_pow_right (by decide) (by omega)
  have h4 : 8 ^ 6 < 2 ^ 31 := by decide
  rw [pk_shrN (by omega) _ (3 * f) (s3 f (by omega)), ← p8, pk_andN (Nat.lt_of_le_of_lt (Nat.div_le_self _ _) (by omega)) 3 (by decide)]
  exact congrArg nI (dgN_at n hf h)
theorem flt_add {w : Nat → Nat} {n : Nat} (hn : n < 6) (h : ∀ f, f < n + 1 → w f < 512) : lN (dgN 512 w n) ||| ((nI (w n)).toInt64 <<< ((9 * nI n).toInt64 &&& 63)) = lN (dgN 512 w (n + 1)) := by
  have h1 := dgN_lt n (fun f hf => h f (by omega))
  have h2 := dgN_lt (n + 1) h
  have h0 := h n (by omega)
  have h3 : 512 ^ (n + 1) ≤ 512 ^ 6 := Nat.pow_le_pow_right (by decide) (by omega)
  have h4 : 512 ^ 6 < 2 ^ 63 := by decide
  rw [p512] at h1
  rw [nI_l (by omega), shlL _ (9 * n) (s9 n hn), or_lN, or_add h1, dgN, p512]
  rw [dgN, p512 n] at h2
  omega
theorem flt_at {w : Nat → Nat} {n f : Nat} (hn : n ≤ 6) (hf : f < n) (h : ∀ f, f < n → w f < 512) : ((lN (dgN 512 w n) >>> ((9 * nI f).toInt64 &&& 63)) &&& 511).toInt32 = nI (w f) := by
  have h2 := dgN_lt n h
  have h3 : 512 ^ n ≤ 512 ^ 6 := Nat.pow_le_pow_right (by decide) (by omega)
  have h4 : 512 ^ 6 < 2 ^ 63 := by decide
  rw [shrL (by omega) _ (9 * f) (s9 f (by omega)), ← p512, andL (Nat.lt_of_le_of_lt (Nat.div_le_self _ _) (by omega)) 9 (by decide), lN_i]
  exact congrArg nI (dgN_at n hf h)
-- what is felt, as a number
def nzN (D : Nat → Nat) (P : Nat → List Int32) (f e k : Nat) : Nat := (nz D P f e k).toNatClampNeg
theorem nz_N (D : Nat → Nat) (P : Nat → List Int32) (f e k : Nat) : nz D P f e k = nI (nzN D P f e k) ∧ nzN D P f e k ≤ 99 := by
  have : ∃ n, n ≤ 99 ∧ nz D P f e k = nI n := by
    unfold nz clmp
    split
    · exact ⟨0, by decide, rfl⟩
    · next c =>
      split
      · exact ⟨99, by decide, rfl⟩
      · next c2 => exact nI_of2 (M := 99) (n := 99) rfl c (Int32.not_lt.mp c2)
  obtain ⟨n, h1, h2⟩ := this
  unfold nzN
  rw [h2, nI_clamp (by omega)]
  exact ⟨rfl, h1⟩
def ftN (D hm : Nat → Nat) (P : Nat → List Int32) (f : Nat) : Nat → Nat
  | 0 => 0
  | n + 1 => ftN D hm P f n + (if thk D hm f n = 0 then 0 else nzN D P f n (thk D hm f n))
theorem ft_N {D hm : Nat → Nat} {P : Nat → List Int32} {f : Nat} : ∀ n, bx_sum (fun e => if thk D hm f e = 0 then 0 else nz D P f e (thk D hm f e)) n = nI (ftN D hm P f n)
  | 0 => rfl
  | n + 1 => by
    rw [bx_sum, ft_N n, ftN]
    split
    · rw [Int32.add_zero, Nat.add_zero]
    · rw [(nz_N D P f n _).1, nI_add]
theorem ft_le {D hm : Nat → Nat} {P : Nat → List Int32} {f : Nat} (hz : thk D hm f f = 0) : ∀ n, ftN D hm P f n + (if f < n then 99 else 0) ≤ 99 * n
  | 0 => by simp [ftN]
  | n + 1 => by
    have ih := ft_le (P := P) hz n
    rw [ftN]
    by_cases c : f = n
    · subst c
      rw [if_pos hz, if_pos (by omega)]
      rw [if_neg (by omega)] at ih
      omega
    · by_cases c2 : f < n
      · rw [if_pos c2] at ih
        rw [if_pos (show f < n + 1 by omega)]
        split
        · omega
        · have := (nz_N D P f n (thk D hm f n)).2
          omega
      · rw [if_neg c2] at ih
        rw [if_neg (show ¬ f < n + 1 by omega)]
        split
        · omega
        · have := (nz_N D P f n (thk D hm f n)).2
          omega
def fltN (D hm : Nat → Nat) (P : Nat → List Int32) (f : Nat) : Nat := ftN D hm P f (D 1)
theorem felt_N (D hm : Nat → Nat) (P : Nat → List Int32) (f : Nat) : felt D hm P f = nI (fltN D hm P f) := ft_N (D 1)
theorem felt_lt {D hm : Nat → Nat} {P : Nat → List Int32} {f : Nat} (hD : WfD D) (h1 : ∀ f, f < D 1 → hm f < D 0) (hf : f < D 1) : fltN D hm P f < 512 := by
  have := ft_le (P := P) (thk_self hD (h1 f hf)) (D 1)
  rw [if_pos hf] at this
  have := hD.F6
  unfold fltN
  omega
